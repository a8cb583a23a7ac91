section
-- ===== PART A: goes FIRST, ahead of the names: the tables' words, and 'selects' of the private methods out of them =====
/-- a private method of a class that the tables say can be made, by its rows of tables_1 -/
def lw_okq (q : MethodName × Nat) : Prop := (q.1.cls ≠ "java/lang/invoke/MethodHandle" ∧ q.1.cls ≠ "java/lang/invoke/VarHandle") ∧ Cond.instantiable q.1.cls q.2 ∈ tables_1 ∧ Cond.privateMethod q.1 ∈ tables_1 ∧ Cond.instanceMethod q.1 ∈ tables_1
theorem lw_p0 : lw_okq (⟨"PaneThread$Scene", "letGo", "()V"⟩, 7) := ⟨⟨by decide +kernel, by decide +kernel⟩, List.mem_of_getElem? (i := 41) (by decide +kernel), List.mem_of_getElem? (i := 409) (by decide +kernel), List.mem_of_getElem? (i := 410) (by decide +kernel)⟩
theorem lw_p1 : lw_okq (⟨"PaneThread$Pane", "lookDown", "(II)V"⟩, 6) := ⟨⟨by decide +kernel, by decide +kernel⟩, List.mem_of_getElem? (i := 47) (by decide +kernel), List.mem_of_getElem? (i := 421) (by decide +kernel), List.mem_of_getElem? (i := 422) (by decide +kernel)⟩
theorem lw_p2 : lw_okq (⟨"PaneThread$Pane", "ownChoice", "(II)I"⟩, 6) := ⟨⟨by decide +kernel, by decide +kernel⟩, List.mem_of_getElem? (i := 47) (by decide +kernel), List.mem_of_getElem? (i := 432) (by decide +kernel), List.mem_of_getElem? (i := 433) (by decide +kernel)⟩
theorem lw_p3 : lw_okq (⟨"PaneThread$Pane", "swing", "(I)I"⟩, 6) := ⟨⟨by decide +kernel, by decide +kernel⟩, List.mem_of_getElem? (i := 47) (by decide +kernel), List.mem_of_getElem? (i := 436) (by decide +kernel), List.mem_of_getElem? (i := 437) (by decide +kernel)⟩
theorem lw_p4 : lw_okq (⟨"PaneThread$Pane", "wettest", "()I"⟩, 6) := ⟨⟨by decide +kernel, by decide +kernel⟩, List.mem_of_getElem? (i := 47) (by decide +kernel), List.mem_of_getElem? (i := 440) (by decide +kernel), List.mem_of_getElem? (i := 441) (by decide +kernel)⟩
theorem lw_p5 : lw_okq (⟨"PaneThread$Pane", "sideways", "(II)I"⟩, 6) := ⟨⟨by decide +kernel, by decide +kernel⟩, List.mem_of_getElem? (i := 47) (by decide +kernel), List.mem_of_getElem? (i := 444) (by decide +kernel), List.mem_of_getElem? (i := 445) (by decide +kernel)⟩
theorem lw_p6 : lw_okq (⟨"PaneThread$Pane", "softest", "()I"⟩, 6) := ⟨⟨by decide +kernel, by decide +kernel⟩, List.mem_of_getElem? (i := 47) (by decide +kernel), List.mem_of_getElem? (i := 452) (by decide +kernel), List.mem_of_getElem? (i := 453) (by decide +kernel)⟩
theorem lw_p7 : lw_okq (⟨"PaneThread$Scene", "comeTo", "(II)V"⟩, 7) := ⟨⟨by decide +kernel, by decide +kernel⟩, List.mem_of_getElem? (i := 41) (by decide +kernel), List.mem_of_getElem? (i := 457) (by decide +kernel), List.mem_of_getElem? (i := 458) (by decide +kernel)⟩
theorem lw_p8 : lw_okq (⟨"PaneThread$Scene", "blow", "()V"⟩, 7) := ⟨⟨by decide +kernel, by decide +kernel⟩, List.mem_of_getElem? (i := 41) (by decide +kernel), List.mem_of_getElem? (i := 466) (by decide +kernel), List.mem_of_getElem? (i := 467) (by decide +kernel)⟩
theorem lw_p9 : lw_okq (⟨"PaneThread$Reader", "readToken", "()V"⟩, 5) := ⟨⟨by decide +kernel, by decide +kernel⟩, List.mem_of_getElem? (i := 185) (by decide +kernel), List.mem_of_getElem? (i := 536) (by decide +kernel), List.mem_of_getElem? (i := 537) (by decide +kernel)⟩
theorem lw_p10 : lw_okq (⟨"PaneThread$Reader", "typeAt", "(I)I"⟩, 5) := ⟨⟨by decide +kernel, by decide +kernel⟩, List.mem_of_getElem? (i := 185) (by decide +kernel), List.mem_of_getElem? (i := 540) (by decide +kernel), List.mem_of_getElem? (i := 541) (by decide +kernel)⟩
theorem lw_p11 : lw_okq (⟨"PaneThread$Reader", "readNumber", "()V"⟩, 5) := ⟨⟨by decide +kernel, by decide +kernel⟩, List.mem_of_getElem? (i := 185) (by decide +kernel), List.mem_of_getElem? (i := 545) (by decide +kernel), List.mem_of_getElem? (i := 546) (by decide +kernel)⟩
theorem lw_p12 : lw_okq (⟨"PaneThread$Reader", "readDeed", "(LPaneThread$Programs;I)I"⟩, 5) := ⟨⟨by decide +kernel, by decide +kernel⟩, List.mem_of_getElem? (i := 185) (by decide +kernel), List.mem_of_getElem? (i := 550) (by decide +kernel), List.mem_of_getElem? (i := 551) (by decide +kernel)⟩
theorem lw_p13 : lw_okq (⟨"PaneThread$Reader", "deedOfToken", "()I"⟩, 5) := ⟨⟨by decide +kernel, by decide +kernel⟩, List.mem_of_getElem? (i := 185) (by decide +kernel), List.mem_of_getElem? (i := 554) (by decide +kernel), List.mem_of_getElem? (i := 555) (by decide +kernel)⟩
theorem lw_p14 : lw_okq (⟨"PaneThread$Reader", "isToken", "(Ljava/lang/String;)Z"⟩, 5) := ⟨⟨by decide +kernel, by decide +kernel⟩, List.mem_of_getElem? (i := 185) (by decide +kernel), List.mem_of_getElem? (i := 574) (by decide +kernel), List.mem_of_getElem? (i := 575) (by decide +kernel)⟩
theorem lw_p15 : lw_okq (⟨"PaneThread$Reader", "isNumber", "(II)Z"⟩, 5) := ⟨⟨by decide +kernel, by decide +kernel⟩, List.mem_of_getElem? (i := 185) (by decide +kernel), List.mem_of_getElem? (i := 630) (by decide +kernel), List.mem_of_getElem? (i := 631) (by decide +kernel)⟩
def lw_privs_1 : List (MethodName × Nat) := [(⟨"PaneThread$Scene", "letGo", "()V"⟩, 7), (⟨"PaneThread$Pane", "lookDown", "(II)V"⟩, 6), (⟨"PaneThread$Pane", "ownChoice", "(II)I"⟩, 6), (⟨"PaneThread$Pane", "swing", "(I)I"⟩, 6), (⟨"PaneThread$Pane", "wettest", "()I"⟩, 6), (⟨"PaneThread$Pane", "sideways", "(II)I"⟩, 6), (⟨"PaneThread$Pane", "softest", "()I"⟩, 6), (⟨"PaneThread$Scene", "comeTo", "(II)V"⟩, 7), (⟨"PaneThread$Scene", "blow", "()V"⟩, 7), (⟨"PaneThread$Reader", "readToken", "()V"⟩, 5), (⟨"PaneThread$Reader", "typeAt", "(I)I"⟩, 5), (⟨"PaneThread$Reader", "readNumber", "()V"⟩, 5), (⟨"PaneThread$Reader", "readDeed", "(LPaneThread$Programs;I)I"⟩, 5), (⟨"PaneThread$Reader", "deedOfToken", "()I"⟩, 5), (⟨"PaneThread$Reader", "isToken", "(Ljava/lang/String;)Z"⟩, 5), (⟨"PaneThread$Reader", "isNumber", "(II)Z"⟩, 5)]
theorem lw_r1 : ∀ q ∈ lw_privs_1, lw_okq q := List.forall_mem_cons.mpr ⟨lw_p0, List.forall_mem_cons.mpr ⟨lw_p1, List.forall_mem_cons.mpr ⟨lw_p2, List.forall_mem_cons.mpr ⟨lw_p3, List.forall_mem_cons.mpr ⟨lw_p4, List.forall_mem_cons.mpr ⟨lw_p5, List.forall_mem_cons.mpr ⟨lw_p6, List.forall_mem_cons.mpr ⟨lw_p7, List.forall_mem_cons.mpr ⟨lw_p8, List.forall_mem_cons.mpr ⟨lw_p9, List.forall_mem_cons.mpr ⟨lw_p10, List.forall_mem_cons.mpr ⟨lw_p11, List.forall_mem_cons.mpr ⟨lw_p12, List.forall_mem_cons.mpr ⟨lw_p13, List.forall_mem_cons.mpr ⟨lw_p14, List.forall_mem_cons.mpr ⟨lw_p15, fun _ h => absurd h List.not_mem_nil⟩⟩⟩⟩⟩⟩⟩⟩⟩⟩⟩⟩⟩⟩⟩⟩
theorem lw_p16 : lw_okq (⟨"PaneThread", "isProgram", "(I)Z"⟩, 11) := ⟨⟨by decide +kernel, by decide +kernel⟩, List.mem_of_getElem? (i := 21) (by decide +kernel), List.mem_of_getElem? (i := 645) (by decide +kernel), List.mem_of_getElem? (i := 646) (by decide +kernel)⟩
theorem lw_p17 : lw_okq (⟨"PaneThread$Ways", "leastBelow", "(LPaneThread$Pane;IZ)I"⟩, 1) := ⟨⟨by decide +kernel, by decide +kernel⟩, List.mem_of_getElem? (i := 251) (by decide +kernel), List.mem_of_getElem? (i := 737) (by decide +kernel), List.mem_of_getElem? (i := 738) (by decide +kernel)⟩
theorem lw_p18 : lw_okq (⟨"PaneThread$Ways", "costOver", "(LPaneThread$Pane;IZ)I"⟩, 1) := ⟨⟨by decide +kernel, by decide +kernel⟩, List.mem_of_getElem? (i := 251) (by decide +kernel), List.mem_of_getElem? (i := 742) (by decide +kernel), List.mem_of_getElem? (i := 743) (by decide +kernel)⟩
theorem lw_p19 : lw_okq (⟨"PaneThread$Ways", "downOn", "(LPaneThread$Pane;I)I"⟩, 1) := ⟨⟨by decide +kernel, by decide +kernel⟩, List.mem_of_getElem? (i := 251) (by decide +kernel), List.mem_of_getElem? (i := 757) (by decide +kernel), List.mem_of_getElem? (i := 758) (by decide +kernel)⟩
theorem lw_p20 : lw_okq (⟨"PaneThreadModel", "finds", "(I)I"⟩, 21) := ⟨⟨by decide +kernel, by decide +kernel⟩, List.mem_of_getElem? (i := 866) (by decide +kernel), List.mem_of_getElem? (i := 949) (by decide +kernel), List.mem_of_getElem? (i := 950) (by decide +kernel)⟩
theorem lw_p21 : lw_okq (⟨"PaneThreadModel", "holdOf", "(I)I"⟩, 21) := ⟨⟨by decide +kernel, by decide +kernel⟩, List.mem_of_getElem? (i := 866) (by decide +kernel), List.mem_of_getElem? (i := 953) (by decide +kernel), List.mem_of_getElem? (i := 954) (by decide +kernel)⟩
theorem lw_p22 : lw_okq (⟨"PaneThreadModel", "wetOf", "(I)I"⟩, 21) := ⟨⟨by decide +kernel, by decide +kernel⟩, List.mem_of_getElem? (i := 866) (by decide +kernel), List.mem_of_getElem? (i := 957) (by decide +kernel), List.mem_of_getElem? (i := 958) (by decide +kernel)⟩
theorem lw_p23 : lw_okq (⟨"PaneThreadModel", "of", "(II)I"⟩, 21) := ⟨⟨by decide +kernel, by decide +kernel⟩, List.mem_of_getElem? (i := 866) (by decide +kernel), List.mem_of_getElem? (i := 961) (by decide +kernel), List.mem_of_getElem? (i := 962) (by decide +kernel)⟩
theorem lw_p24 : lw_okq (⟨"PaneThreadModel", "becomes", "(II)I"⟩, 21) := ⟨⟨by decide +kernel, by decide +kernel⟩, List.mem_of_getElem? (i := 866) (by decide +kernel), List.mem_of_getElem? (i := 970) (by decide +kernel), List.mem_of_getElem? (i := 971) (by decide +kernel)⟩
theorem lw_p25 : lw_okq (⟨"PaneThreadModel", "draw", "()I"⟩, 21) := ⟨⟨by decide +kernel, by decide +kernel⟩, List.mem_of_getElem? (i := 866) (by decide +kernel), List.mem_of_getElem? (i := 986) (by decide +kernel), List.mem_of_getElem? (i := 987) (by decide +kernel)⟩
theorem lw_p26 : lw_okq (⟨"PaneThreadModel", "dirty", "()I"⟩, 21) := ⟨⟨by decide +kernel, by decide +kernel⟩, List.mem_of_getElem? (i := 866) (by decide +kernel), List.mem_of_getElem? (i := 991) (by decide +kernel), List.mem_of_getElem? (i := 992) (by decide +kernel)⟩
theorem lw_p27 : lw_okq (⟨"PaneThreadModel", "fingers", "(I)I"⟩, 21) := ⟨⟨by decide +kernel, by decide +kernel⟩, List.mem_of_getElem? (i := 866) (by decide +kernel), List.mem_of_getElem? (i := 1008) (by decide +kernel), List.mem_of_getElem? (i := 1009) (by decide +kernel)⟩
theorem lw_p28 : lw_okq (⟨"PaneThreadModel", "comes", "(III)I"⟩, 21) := ⟨⟨by decide +kernel, by decide +kernel⟩, List.mem_of_getElem? (i := 866) (by decide +kernel), List.mem_of_getElem? (i := 1029) (by decide +kernel), List.mem_of_getElem? (i := 1030) (by decide +kernel)⟩
theorem lw_p29 : lw_okq (⟨"PaneThreadModel", "isDrop", "(I)Z"⟩, 21) := ⟨⟨by decide +kernel, by decide +kernel⟩, List.mem_of_getElem? (i := 866) (by decide +kernel), List.mem_of_getElem? (i := 1038) (by decide +kernel), List.mem_of_getElem? (i := 1039) (by decide +kernel)⟩
theorem lw_p30 : lw_okq (⟨"PaneThreadModel", "ticks", "(I)V"⟩, 21) := ⟨⟨by decide +kernel, by decide +kernel⟩, List.mem_of_getElem? (i := 866) (by decide +kernel), List.mem_of_getElem? (i := 1047) (by decide +kernel), List.mem_of_getElem? (i := 1048) (by decide +kernel)⟩
theorem lw_p31 : lw_okq (⟨"PaneThreadModel", "goes", "(I)V"⟩, 21) := ⟨⟨by decide +kernel, by decide +kernel⟩, List.mem_of_getElem? (i := 866) (by decide +kernel), List.mem_of_getElem? (i := 1051) (by decide +kernel), List.mem_of_getElem? (i := 1052) (by decide +kernel)⟩
def lw_privs_2 : List (MethodName × Nat) := [(⟨"PaneThread", "isProgram", "(I)Z"⟩, 11), (⟨"PaneThread$Ways", "leastBelow", "(LPaneThread$Pane;IZ)I"⟩, 1), (⟨"PaneThread$Ways", "costOver", "(LPaneThread$Pane;IZ)I"⟩, 1), (⟨"PaneThread$Ways", "downOn", "(LPaneThread$Pane;I)I"⟩, 1), (⟨"PaneThreadModel", "finds", "(I)I"⟩, 21), (⟨"PaneThreadModel", "holdOf", "(I)I"⟩, 21), (⟨"PaneThreadModel", "wetOf", "(I)I"⟩, 21), (⟨"PaneThreadModel", "of", "(II)I"⟩, 21), (⟨"PaneThreadModel", "becomes", "(II)I"⟩, 21), (⟨"PaneThreadModel", "draw", "()I"⟩, 21), (⟨"PaneThreadModel", "dirty", "()I"⟩, 21), (⟨"PaneThreadModel", "fingers", "(I)I"⟩, 21), (⟨"PaneThreadModel", "comes", "(III)I"⟩, 21), (⟨"PaneThreadModel", "isDrop", "(I)Z"⟩, 21), (⟨"PaneThreadModel", "ticks", "(I)V"⟩, 21), (⟨"PaneThreadModel", "goes", "(I)V"⟩, 21)]
theorem lw_r2 : ∀ q ∈ lw_privs_2, lw_okq q := List.forall_mem_cons.mpr ⟨lw_p16, List.forall_mem_cons.mpr ⟨lw_p17, List.forall_mem_cons.mpr ⟨lw_p18, List.forall_mem_cons.mpr ⟨lw_p19, List.forall_mem_cons.mpr ⟨lw_p20, List.forall_mem_cons.mpr ⟨lw_p21, List.forall_mem_cons.mpr ⟨lw_p22, List.forall_mem_cons.mpr ⟨lw_p23, List.forall_mem_cons.mpr ⟨lw_p24, List.forall_mem_cons.mpr ⟨lw_p25, List.forall_mem_cons.mpr ⟨lw_p26, List.forall_mem_cons.mpr ⟨lw_p27, List.forall_mem_cons.mpr ⟨lw_p28, List.forall_mem_cons.mpr ⟨lw_p29, List.forall_mem_cons.mpr ⟨lw_p30, List.forall_mem_cons.mpr ⟨lw_p31, fun _ h => absurd h List.not_mem_nil⟩⟩⟩⟩⟩⟩⟩⟩⟩⟩⟩⟩⟩⟩⟩⟩
theorem lw_p32 : lw_okq (⟨"PaneThreadModel", "nextOf", "(I)I"⟩, 21) := ⟨⟨by decide +kernel, by decide +kernel⟩, List.mem_of_getElem? (i := 866) (by decide +kernel), List.mem_of_getElem? (i := 1055) (by decide +kernel), List.mem_of_getElem? (i := 1056) (by decide +kernel)⟩
theorem lw_p33 : lw_okq (⟨"PaneThreadModel", "goesTo", "(IIII)I"⟩, 21) := ⟨⟨by decide +kernel, by decide +kernel⟩, List.mem_of_getElem? (i := 866) (by decide +kernel), List.mem_of_getElem? (i := 1059) (by decide +kernel), List.mem_of_getElem? (i := 1060) (by decide +kernel)⟩
theorem lw_p34 : lw_okq (⟨"PaneThreadModel", "can", "(II)Z"⟩, 21) := ⟨⟨by decide +kernel, by decide +kernel⟩, List.mem_of_getElem? (i := 866) (by decide +kernel), List.mem_of_getElem? (i := 1063) (by decide +kernel), List.mem_of_getElem? (i := 1064) (by decide +kernel)⟩
theorem lw_p35 : lw_okq (⟨"PaneThreadModel", "wettest", "(II)I"⟩, 21) := ⟨⟨by decide +kernel, by decide +kernel⟩, List.mem_of_getElem? (i := 866) (by decide +kernel), List.mem_of_getElem? (i := 1067) (by decide +kernel), List.mem_of_getElem? (i := 1068) (by decide +kernel)⟩
theorem lw_p36 : lw_okq (⟨"PaneThreadModel", "aside", "(II)I"⟩, 21) := ⟨⟨by decide +kernel, by decide +kernel⟩, List.mem_of_getElem? (i := 866) (by decide +kernel), List.mem_of_getElem? (i := 1074) (by decide +kernel), List.mem_of_getElem? (i := 1075) (by decide +kernel)⟩
theorem lw_p37 : lw_okq (⟨"PaneThreadModel", "softest", "(II)I"⟩, 21) := ⟨⟨by decide +kernel, by decide +kernel⟩, List.mem_of_getElem? (i := 866) (by decide +kernel), List.mem_of_getElem? (i := 1078) (by decide +kernel), List.mem_of_getElem? (i := 1079) (by decide +kernel)⟩
theorem lw_p38 : lw_okq (⟨"PaneThreadModel", "swung", "(III)I"⟩, 21) := ⟨⟨by decide +kernel, by decide +kernel⟩, List.mem_of_getElem? (i := 866) (by decide +kernel), List.mem_of_getElem? (i := 1082) (by decide +kernel), List.mem_of_getElem? (i := 1083) (by decide +kernel)⟩
theorem lw_p39 : lw_okq (⟨"PaneThreadModel", "blown", "(I)V"⟩, 21) := ⟨⟨by decide +kernel, by decide +kernel⟩, List.mem_of_getElem? (i := 866) (by decide +kernel), List.mem_of_getElem? (i := 1089) (by decide +kernel), List.mem_of_getElem? (i := 1090) (by decide +kernel)⟩
theorem lw_p40 : lw_okq (⟨"PaneThreadModel", "joins", "()V"⟩, 21) := ⟨⟨by decide +kernel, by decide +kernel⟩, List.mem_of_getElem? (i := 866) (by decide +kernel), List.mem_of_getElem? (i := 1093) (by decide +kernel), List.mem_of_getElem? (i := 1094) (by decide +kernel)⟩
theorem lw_p41 : lw_okq (⟨"PaneThreadModel", "drops", "()I"⟩, 21) := ⟨⟨by decide +kernel, by decide +kernel⟩, List.mem_of_getElem? (i := 866) (by decide +kernel), List.mem_of_getElem? (i := 1097) (by decide +kernel), List.mem_of_getElem? (i := 1098) (by decide +kernel)⟩
theorem lw_p42 : lw_okq (⟨"PaneThreadModel", "token", "()V"⟩, 21) := ⟨⟨by decide +kernel, by decide +kernel⟩, List.mem_of_getElem? (i := 866) (by decide +kernel), List.mem_of_getElem? (i := 1127) (by decide +kernel), List.mem_of_getElem? (i := 1128) (by decide +kernel)⟩
theorem lw_p43 : lw_okq (⟨"PaneThreadModel", "isByte", "(III)Z"⟩, 21) := ⟨⟨by decide +kernel, by decide +kernel⟩, List.mem_of_getElem? (i := 866) (by decide +kernel), List.mem_of_getElem? (i := 1131) (by decide +kernel), List.mem_of_getElem? (i := 1132) (by decide +kernel)⟩
theorem lw_p44 : lw_okq (⟨"PaneThreadModel", "deed", "(I)V"⟩, 21) := ⟨⟨by decide +kernel, by decide +kernel⟩, List.mem_of_getElem? (i := 866) (by decide +kernel), List.mem_of_getElem? (i := 1135) (by decide +kernel), List.mem_of_getElem? (i := 1136) (by decide +kernel)⟩
theorem lw_p45 : lw_okq (⟨"PaneThreadModel", "deedHere", "()I"⟩, 21) := ⟨⟨by decide +kernel, by decide +kernel⟩, List.mem_of_getElem? (i := 866) (by decide +kernel), List.mem_of_getElem? (i := 1139) (by decide +kernel), List.mem_of_getElem? (i := 1140) (by decide +kernel)⟩
theorem lw_p46 : lw_okq (⟨"PaneThreadModel", "isWord", "(Ljava/lang/String;)Z"⟩, 21) := ⟨⟨by decide +kernel, by decide +kernel⟩, List.mem_of_getElem? (i := 866) (by decide +kernel), List.mem_of_getElem? (i := 1144) (by decide +kernel), List.mem_of_getElem? (i := 1145) (by decide +kernel)⟩
theorem lw_p47 : lw_okq (⟨"PaneThreadModel", "number", "(II)I"⟩, 21) := ⟨⟨by decide +kernel, by decide +kernel⟩, List.mem_of_getElem? (i := 866) (by decide +kernel), List.mem_of_getElem? (i := 1162) (by decide +kernel), List.mem_of_getElem? (i := 1163) (by decide +kernel)⟩
def lw_privs_3 : List (MethodName × Nat) := [(⟨"PaneThreadModel", "nextOf", "(I)I"⟩, 21), (⟨"PaneThreadModel", "goesTo", "(IIII)I"⟩, 21), (⟨"PaneThreadModel", "can", "(II)Z"⟩, 21), (⟨"PaneThreadModel", "wettest", "(II)I"⟩, 21), (⟨"PaneThreadModel", "aside", "(II)I"⟩, 21), (⟨"PaneThreadModel", "softest", "(II)I"⟩, 21), (⟨"PaneThreadModel", "swung", "(III)I"⟩, 21), (⟨"PaneThreadModel", "blown", "(I)V"⟩, 21), (⟨"PaneThreadModel", "joins", "()V"⟩, 21), (⟨"PaneThreadModel", "drops", "()I"⟩, 21), (⟨"PaneThreadModel", "token", "()V"⟩, 21), (⟨"PaneThreadModel", "isByte", "(III)Z"⟩, 21), (⟨"PaneThreadModel", "deed", "(I)V"⟩, 21), (⟨"PaneThreadModel", "deedHere", "()I"⟩, 21), (⟨"PaneThreadModel", "isWord", "(Ljava/lang/String;)Z"⟩, 21), (⟨"PaneThreadModel", "number", "(II)I"⟩, 21)]
theorem lw_r3 : ∀ q ∈ lw_privs_3, lw_okq q := List.forall_mem_cons.mpr ⟨lw_p32, List.forall_mem_cons.mpr ⟨lw_p33, List.forall_mem_cons.mpr ⟨lw_p34, List.forall_mem_cons.mpr ⟨lw_p35, List.forall_mem_cons.mpr ⟨lw_p36, List.forall_mem_cons.mpr ⟨lw_p37, List.forall_mem_cons.mpr ⟨lw_p38, List.forall_mem_cons.mpr ⟨lw_p39, List.forall_mem_cons.mpr ⟨lw_p40, List.forall_mem_cons.mpr ⟨lw_p41, List.forall_mem_cons.mpr ⟨lw_p42, List.forall_mem_cons.mpr ⟨lw_p43, List.forall_mem_cons.mpr ⟨lw_p44, List.forall_mem_cons.mpr ⟨lw_p45, List.forall_mem_cons.mpr ⟨lw_p46, List.forall_mem_cons.mpr ⟨lw_p47, fun _ h => absurd h List.not_mem_nil⟩⟩⟩⟩⟩⟩⟩⟩⟩⟩⟩⟩⟩⟩⟩⟩
theorem lw_p48 : lw_okq (⟨"PaneThreadModel", "wind", "()I"⟩, 21) := ⟨⟨by decide +kernel, by decide +kernel⟩, List.mem_of_getElem? (i := 866) (by decide +kernel), List.mem_of_getElem? (i := 1167) (by decide +kernel), List.mem_of_getElem? (i := 1168) (by decide +kernel)⟩
theorem lw_p49 : lw_okq (⟨"PaneThreadModel", "isSign", "(I)Z"⟩, 21) := ⟨⟨by decide +kernel, by decide +kernel⟩, List.mem_of_getElem? (i := 866) (by decide +kernel), List.mem_of_getElem? (i := 1171) (by decide +kernel), List.mem_of_getElem? (i := 1172) (by decide +kernel)⟩
theorem lw_p50 : lw_okq (⟨"PaneThreadModel", "isProgram", "(I)Z"⟩, 21) := ⟨⟨by decide +kernel, by decide +kernel⟩, List.mem_of_getElem? (i := 866) (by decide +kernel), List.mem_of_getElem? (i := 1179) (by decide +kernel), List.mem_of_getElem? (i := 1180) (by decide +kernel)⟩
theorem lw_p51 : lw_okq (⟨"PaneThreadModel", "does", "(III)V"⟩, 21) := ⟨⟨by decide +kernel, by decide +kernel⟩, List.mem_of_getElem? (i := 866) (by decide +kernel), List.mem_of_getElem? (i := 1187) (by decide +kernel), List.mem_of_getElem? (i := 1188) (by decide +kernel)⟩
theorem lw_p52 : lw_okq (⟨"PaneThreadModel", "goesAll", "(III)V"⟩, 21) := ⟨⟨by decide +kernel, by decide +kernel⟩, List.mem_of_getElem? (i := 866) (by decide +kernel), List.mem_of_getElem? (i := 1198) (by decide +kernel), List.mem_of_getElem? (i := 1199) (by decide +kernel)⟩
theorem lw_p53 : lw_okq (⟨"PaneThreadModel", "onCells", "()I"⟩, 21) := ⟨⟨by decide +kernel, by decide +kernel⟩, List.mem_of_getElem? (i := 866) (by decide +kernel), List.mem_of_getElem? (i := 1202) (by decide +kernel), List.mem_of_getElem? (i := 1203) (by decide +kernel)⟩
theorem lw_p54 : lw_okq (⟨"PaneThreadModel", "findSums", "()V"⟩, 21) := ⟨⟨by decide +kernel, by decide +kernel⟩, List.mem_of_getElem? (i := 866) (by decide +kernel), List.mem_of_getElem? (i := 1239) (by decide +kernel), List.mem_of_getElem? (i := 1240) (by decide +kernel)⟩
theorem lw_p55 : lw_okq (⟨"PaneThreadModel", "isWay", "(I)Z"⟩, 21) := ⟨⟨by decide +kernel, by decide +kernel⟩, List.mem_of_getElem? (i := 866) (by decide +kernel), List.mem_of_getElem? (i := 1248) (by decide +kernel), List.mem_of_getElem? (i := 1249) (by decide +kernel)⟩
def lw_privs_4 : List (MethodName × Nat) := [(⟨"PaneThreadModel", "wind", "()I"⟩, 21), (⟨"PaneThreadModel", "isSign", "(I)Z"⟩, 21), (⟨"PaneThreadModel", "isProgram", "(I)Z"⟩, 21), (⟨"PaneThreadModel", "does", "(III)V"⟩, 21), (⟨"PaneThreadModel", "goesAll", "(III)V"⟩, 21), (⟨"PaneThreadModel", "onCells", "()I"⟩, 21), (⟨"PaneThreadModel", "findSums", "()V"⟩, 21), (⟨"PaneThreadModel", "isWay", "(I)Z"⟩, 21)]
theorem lw_r4 : ∀ q ∈ lw_privs_4, lw_okq q := List.forall_mem_cons.mpr ⟨lw_p48, List.forall_mem_cons.mpr ⟨lw_p49, List.forall_mem_cons.mpr ⟨lw_p50, List.forall_mem_cons.mpr ⟨lw_p51, List.forall_mem_cons.mpr ⟨lw_p52, List.forall_mem_cons.mpr ⟨lw_p53, List.forall_mem_cons.mpr ⟨lw_p54, List.forall_mem_cons.mpr ⟨lw_p55, fun _ h => absurd h List.not_mem_nil⟩⟩⟩⟩⟩⟩⟩⟩
def lw_privs : List (MethodName × Nat) := lw_privs_1 ++ (lw_privs_2 ++ (lw_privs_3 ++ (lw_privs_4)))
def lw_tbl : List Cond := k2_sels lw_privs ++ tables_1
theorem lw_privs_ok : ∀ q ∈ lw_privs, lw_okq q := by
  show ∀ q ∈ lw_privs_1 ++ (lw_privs_2 ++ (lw_privs_3 ++ (lw_privs_4))), lw_okq q
  exact List.forall_mem_append.mpr ⟨lw_r1, List.forall_mem_append.mpr ⟨lw_r2, List.forall_mem_append.mpr ⟨lw_r3, lw_r4⟩⟩⟩
end
section
def RX0 : String := "PaneThread$Drops"
def TX0 : u_T := fun k => match k with
  | 0 => ("PaneThread$Drops", "kind", "[I", true)
  | 1 => ("PaneThread$Drops", "cell", "[I", true)
  | 2 => ("PaneThread$Drops", "water", "[I", true)
  | _ => ("PaneThread$Drops", "steps", "[I", true)
def tyX0 : Nat → FieldType := fun k => match k with
  | 0 => .array .int
  | 1 => .array .int
  | 2 => .array .int
  | _ => .array .int
abbrev wsX00 : List Cond := u_ws RX0 TX0 4
theorem nmX0 : ∀ a, a < 4 → ∀ b, b < 4 → a ≠ b → (TX0 a).2.1 ≠ (TX0 b).2.1 := by decide +kernel
theorem tyX0_ok : ∀ k, k < 4 → parseFieldDescriptor (TX0 k).2.2.1 = some (tyX0 k) := by decide +kernel
abbrev cX0_init : ByteArray := prog_2_method_1_code
def yX0_init : MethodName := ⟨RX0, "<init>", "()V"⟩
abbrev cX0_become : ByteArray := prog_2_method_2_code
def yX0_become : MethodName := ⟨RX0, "become", "(LPaneThread$Drops;)V"⟩
abbrev cX0_isThere : ByteArray := prog_2_method_3_code
def yX0_isThere : MethodName := ⟨RX0, "isThere", "(I)Z"⟩
abbrev cX0_howMany : ByteArray := prog_2_method_4_code
def yX0_howMany : MethodName := ⟨RX0, "howMany", "()I"⟩
abbrev cX0_leastFree : ByteArray := prog_2_method_5_code
def yX0_leastFree : MethodName := ⟨RX0, "leastFree", "()I"⟩
abbrev cX0_leastOn : ByteArray := prog_2_method_6_code
def yX0_leastOn : MethodName := ⟨RX0, "leastOn", "(I)I"⟩
abbrev cX0_addWater : ByteArray := prog_2_method_7_code
def yX0_addWater : MethodName := ⟨RX0, "addWater", "(II)V"⟩
abbrev cX0_join : ByteArray := prog_2_method_8_code
def yX0_join : MethodName := ⟨RX0, "join", "()V"⟩
def RX1 : String := "PaneThread$Findings"
def TX1 : u_T := fun k => match k with
  | _ => ("PaneThread$Findings", "told", "[I", true)
def tyX1 : Nat → FieldType := fun k => match k with
  | _ => .array .int
abbrev wsX10 : List Cond := u_ws RX1 TX1 1
theorem nmX1 : ∀ a, a < 1 → ∀ b, b < 1 → a ≠ b → (TX1 a).2.1 ≠ (TX1 b).2.1 := by decide +kernel
theorem tyX1_ok : ∀ k, k < 1 → parseFieldDescriptor (TX1 k).2.2.1 = some (tyX1 k) := by decide +kernel
abbrev cX1_init : ByteArray := prog_3_method_1_code
def yX1_init : MethodName := ⟨RX1, "<init>", "()V"⟩
abbrev cX1_tell : ByteArray := prog_3_method_2_code
def yX1_tell : MethodName := ⟨RX1, "tell", "(I)I"⟩
def RX2 : String := "PaneThread$Pane"
def TX2 : u_T := fun k => match k with
  | 0 => ("PaneThread$Pane", "dirt", "[I", true)
  | 1 => ("PaneThread$Pane", "wet", "[I", true)
  | 2 => ("PaneThread$Pane", "lean", "I", false)
  | 3 => ("PaneThread$Pane", "wind", "I", false)
  | 4 => ("PaneThread$Pane", "fade", "I", false)
  | _ => ("PaneThread$Pane", "reach", "[I", true)
def tyX2 : Nat → FieldType := fun k => match k with
  | 0 => .array .int
  | 1 => .array .int
  | 2 => .int
  | 3 => .int
  | 4 => .int
  | _ => .array .int
abbrev wsX20 : List Cond := u_ws RX2 TX2 6
theorem nmX2 : ∀ a, a < 6 → ∀ b, b < 6 → a ≠ b → (TX2 a).2.1 ≠ (TX2 b).2.1 := by decide +kernel
theorem tyX2_ok : ∀ k, k < 6 → parseFieldDescriptor (TX2 k).2.2.1 = some (tyX2 k) := by decide +kernel
abbrev cX2_init : ByteArray := prog_4_method_1_code
def yX2_init : MethodName := ⟨RX2, "<init>", "()V"⟩
abbrev cX2_become : ByteArray := prog_4_method_2_code
def yX2_become : MethodName := ⟨RX2, "become", "(LPaneThread$Pane;)V"⟩
abbrev cX2_holdOf : ByteArray := prog_4_method_3_code
def yX2_holdOf : MethodName := ⟨RX2, "holdOf", "(I)I"⟩
abbrev cX2_cleanRow : ByteArray := prog_4_method_4_code
def yX2_cleanRow : MethodName := ⟨RX2, "cleanRow", "(I)I"⟩
abbrev cX2_wetColumn : ByteArray := prog_4_method_5_code
def yX2_wetColumn : MethodName := ⟨RX2, "wetColumn", "(I)I"⟩
abbrev cX2_fadeOnce : ByteArray := prog_4_method_6_code
def yX2_fadeOnce : MethodName := ⟨RX2, "fadeOnce", "()V"⟩
abbrev cX2_goal : ByteArray := prog_4_method_7_code
def yX2_goal : MethodName := ⟨RX2, "goal", "(IIII)I"⟩
abbrev cX2_lookDown : ByteArray := prog_4_method_8_code
def yX2_lookDown : MethodName := ⟨RX2, "lookDown", "(II)V"⟩
abbrev cX2_ownChoice : ByteArray := prog_4_method_9_code
def yX2_ownChoice : MethodName := ⟨RX2, "ownChoice", "(II)I"⟩
abbrev cX2_sideways : ByteArray := prog_4_method_10_code
def yX2_sideways : MethodName := ⟨RX2, "sideways", "(II)I"⟩
abbrev cX2_swing : ByteArray := prog_4_method_11_code
def yX2_swing : MethodName := ⟨RX2, "swing", "(I)I"⟩
abbrev cX2_softest : ByteArray := prog_4_method_12_code
def yX2_softest : MethodName := ⟨RX2, "softest", "()I"⟩
abbrev cX2_wettest : ByteArray := prog_4_method_13_code
def yX2_wettest : MethodName := ⟨RX2, "wettest", "()I"⟩
def RX3 : String := "PaneThread$Programs"
def TX3 : u_T := fun k => match k with
  | 0 => ("PaneThread$Programs", "made", "I", false)
  | 1 => ("PaneThread$Programs", "sizes", "[I", true)
  | 2 => ("PaneThread$Programs", "deeds", "[I", true)
  | 3 => ("PaneThread$Programs", "numbers", "[I", true)
  | _ => ("PaneThread$Programs", "columns", "[I", true)
def tyX3 : Nat → FieldType := fun k => match k with
  | 0 => .int
  | 1 => .array .int
  | 2 => .array .int
  | 3 => .array .int
  | _ => .array .int
abbrev wsX30 : List Cond := u_ws RX3 TX3 5
theorem nmX3 : ∀ a, a < 5 → ∀ b, b < 5 → a ≠ b → (TX3 a).2.1 ≠ (TX3 b).2.1 := by decide +kernel
theorem tyX3_ok : ∀ k, k < 5 → parseFieldDescriptor (TX3 k).2.2.1 = some (tyX3 k) := by decide +kernel
abbrev cX3_init : ByteArray := prog_5_method_1_code
def yX3_init : MethodName := ⟨RX3, "<init>", "()V"⟩
abbrev cX3_become : ByteArray := prog_5_method_2_code
def yX3_become : MethodName := ⟨RX3, "become", "(LPaneThread$Programs;)V"⟩
abbrev cX3_put : ByteArray := prog_5_method_3_code
def yX3_put : MethodName := ⟨RX3, "put", "(IIII)V"⟩
abbrev cX3_ticksOf : ByteArray := prog_5_method_4_code
def yX3_ticksOf : MethodName := ⟨RX3, "ticksOf", "(I)I"⟩
def RX4 : String := "PaneThread$Reader"
def TX4 : u_T := fun k => match k with
  | 0 => ("PaneThread$Reader", "tape", "LPaneThread$Tape;", true)
  | 1 => ("PaneThread$Reader", "type", "I", false)
  | 2 => ("PaneThread$Reader", "start", "I", false)
  | 3 => ("PaneThread$Reader", "behind", "I", false)
  | _ => ("PaneThread$Reader", "value", "I", false)
def tyX4 : Nat → FieldType := fun k => match k with
  | 0 => .object "PaneThread$Tape"
  | 1 => .int
  | 2 => .int
  | 3 => .int
  | _ => .int
abbrev wsX40 : List Cond := u_ws RX4 TX4 5
theorem nmX4 : ∀ a, a < 5 → ∀ b, b < 5 → a ≠ b → (TX4 a).2.1 ≠ (TX4 b).2.1 := by decide +kernel
theorem tyX4_ok : ∀ k, k < 5 → parseFieldDescriptor (TX4 k).2.2.1 = some (tyX4 k) := by decide +kernel
abbrev cX4_init : ByteArray := prog_6_method_1_code
def yX4_init : MethodName := ⟨RX4, "<init>", "(LPaneThread$Tape;)V"⟩
abbrev cX4_readText : ByteArray := prog_6_method_2_code
def yX4_readText : MethodName := ⟨RX4, "readText", "(LPaneThread$Programs;)I"⟩
abbrev cX4_readDeed : ByteArray := prog_6_method_3_code
def yX4_readDeed : MethodName := ⟨RX4, "readDeed", "(LPaneThread$Programs;I)I"⟩
abbrev cX4_isNumber : ByteArray := prog_6_method_4_code
def yX4_isNumber : MethodName := ⟨RX4, "isNumber", "(II)Z"⟩
abbrev cX4_deedOfToken : ByteArray := prog_6_method_5_code
def yX4_deedOfToken : MethodName := ⟨RX4, "deedOfToken", "()I"⟩
abbrev cX4_isToken : ByteArray := prog_6_method_6_code
def yX4_isToken : MethodName := ⟨RX4, "isToken", "(Ljava/lang/String;)Z"⟩
abbrev cX4_wordOf : ByteArray := prog_6_method_7_code
def yX4_wordOf : MethodName := ⟨RX4, "wordOf", "(I)Ljava/lang/String;"⟩
abbrev cX4_readToken : ByteArray := prog_6_method_8_code
def yX4_readToken : MethodName := ⟨RX4, "readToken", "()V"⟩
abbrev cX4_readNumber : ByteArray := prog_6_method_9_code
def yX4_readNumber : MethodName := ⟨RX4, "readNumber", "()V"⟩
abbrev cX4_typeAt : ByteArray := prog_6_method_10_code
def yX4_typeAt : MethodName := ⟨RX4, "typeAt", "(I)I"⟩
def RX5 : String := "PaneThread$Scene"
def TX5 : u_T := fun k => match k with
  | 0 => ("PaneThread$Scene", "pane", "LPaneThread$Pane;", true)
  | 1 => ("PaneThread$Scene", "drops", "LPaneThread$Drops;", true)
  | 2 => ("PaneThread$Scene", "programs", "LPaneThread$Programs;", true)
  | 3 => ("PaneThread$Scene", "shedAt", "[I", true)
  | 4 => ("PaneThread$Scene", "spots", "[I", true)
  | 5 => ("PaneThread$Scene", "z", "I", false)
  | _ => ("PaneThread$Scene", "ticks", "I", false)
def tyX5 : Nat → FieldType := fun k => match k with
  | 0 => .object "PaneThread$Pane"
  | 1 => .object "PaneThread$Drops"
  | 2 => .object "PaneThread$Programs"
  | 3 => .array .int
  | 4 => .array .int
  | 5 => .int
  | _ => .int
abbrev wsX50 : List Cond := u_ws RX5 TX5 7
theorem nmX5 : ∀ a, a < 7 → ∀ b, b < 7 → a ≠ b → (TX5 a).2.1 ≠ (TX5 b).2.1 := by decide +kernel
theorem tyX5_ok : ∀ k, k < 7 → parseFieldDescriptor (TX5 k).2.2.1 = some (tyX5 k) := by decide +kernel
abbrev cX5_init : ByteArray := prog_7_method_1_code
def yX5_init : MethodName := ⟨RX5, "<init>", "()V"⟩
abbrev cX5_become : ByteArray := prog_7_method_2_code
def yX5_become : MethodName := ⟨RX5, "become", "(LPaneThread$Scene;)V"⟩
abbrev cX5_draw : ByteArray := prog_7_method_3_code
def yX5_draw : MethodName := ⟨RX5, "draw", "()I"⟩
abbrev cX5_makeDrop : ByteArray := prog_7_method_4_code
def yX5_makeDrop : MethodName := ⟨RX5, "makeDrop", "(III)I"⟩
abbrev cX5_passTicks : ByteArray := prog_7_method_5_code
def yX5_passTicks : MethodName := ⟨RX5, "passTicks", "(I)V"⟩
abbrev cX5_letGo : ByteArray := prog_7_method_6_code
def yX5_letGo : MethodName := ⟨RX5, "letGo", "()V"⟩
abbrev cX5_comeTo : ByteArray := prog_7_method_7_code
def yX5_comeTo : MethodName := ⟨RX5, "comeTo", "(II)V"⟩
abbrev cX5_blow : ByteArray := prog_7_method_8_code
def yX5_blow : MethodName := ⟨RX5, "blow", "()V"⟩
abbrev cX5_perform : ByteArray := prog_7_method_9_code
def yX5_perform : MethodName := ⟨RX5, "perform", "(I)V"⟩
def RX6 : String := "PaneThread$Sheet"
def TX6 : u_T := fun k => match k with
  | 0 => ("PaneThread$Sheet", "bits", "I", false)
  | 1 => ("PaneThread$Sheet", "size", "I", false)
  | _ => ("PaneThread$Sheet", "numbers", "[I", true)
def tyX6 : Nat → FieldType := fun k => match k with
  | 0 => .int
  | 1 => .int
  | _ => .array .int
abbrev wsX60 : List Cond := u_ws RX6 TX6 3
theorem nmX6 : ∀ a, a < 3 → ∀ b, b < 3 → a ≠ b → (TX6 a).2.1 ≠ (TX6 b).2.1 := by decide +kernel
theorem tyX6_ok : ∀ k, k < 3 → parseFieldDescriptor (TX6 k).2.2.1 = some (tyX6 k) := by decide +kernel
abbrev cX6_init : ByteArray := prog_8_method_1_code
def yX6_init : MethodName := ⟨RX6, "<init>", "()V"⟩
abbrev cX6_isMissing : ByteArray := prog_8_method_2_code
def yX6_isMissing : MethodName := ⟨RX6, "isMissing", "()Z"⟩
abbrev cX6_begin : ByteArray := prog_8_method_3_code
def yX6_begin : MethodName := ⟨RX6, "begin", "(II)V"⟩
abbrev cX6_put : ByteArray := prog_8_method_4_code
def yX6_put : MethodName := ⟨RX6, "put", "(II)V"⟩
abbrev cX6_hasStretch : ByteArray := prog_8_method_5_code
def yX6_hasStretch : MethodName := ⟨RX6, "hasStretch", "(II)Z"⟩
def RX7 : String := "PaneThread$Tape"
def TX7 : u_T := fun k => match k with
  | 0 => ("PaneThread$Tape", "bytes", "[I", true)
  | _ => ("PaneThread$Tape", "length", "I", false)
def tyX7 : Nat → FieldType := fun k => match k with
  | 0 => .array .int
  | _ => .int
abbrev wsX70 : List Cond := u_ws RX7 TX7 2
theorem nmX7 : ∀ a, a < 2 → ∀ b, b < 2 → a ≠ b → (TX7 a).2.1 ≠ (TX7 b).2.1 := by decide +kernel
theorem tyX7_ok : ∀ k, k < 2 → parseFieldDescriptor (TX7 k).2.2.1 = some (tyX7 k) := by decide +kernel
abbrev cX7_init : ByteArray := prog_9_method_1_code
def yX7_init : MethodName := ⟨RX7, "<init>", "()V"⟩
abbrev cX7_append : ByteArray := prog_9_method_2_code
def yX7_append : MethodName := ⟨RX7, "append", "(II)V"⟩
def RX8 : String := "PaneThread$Walk"
def TX8 : u_T := fun k => match k with
  | 0 => ("PaneThread$Walk", "cells", "[I", true)
  | 1 => ("PaneThread$Walk", "steps", "I", false)
  | 2 => ("PaneThread$Walk", "water", "I", false)
  | _ => ("PaneThread$Walk", "outColumn", "I", false)
def tyX8 : Nat → FieldType := fun k => match k with
  | 0 => .array .int
  | 1 => .int
  | 2 => .int
  | _ => .int
abbrev wsX80 : List Cond := u_ws RX8 TX8 4
theorem nmX8 : ∀ a, a < 4 → ∀ b, b < 4 → a ≠ b → (TX8 a).2.1 ≠ (TX8 b).2.1 := by decide +kernel
theorem tyX8_ok : ∀ k, k < 4 → parseFieldDescriptor (TX8 k).2.2.1 = some (tyX8 k) := by decide +kernel
abbrev cX8_init : ByteArray := prog_10_method_1_code
def yX8_init : MethodName := ⟨RX8, "<init>", "()V"⟩
abbrev cX8_follow : ByteArray := prog_10_method_2_code
def yX8_follow : MethodName := ⟨RX8, "follow", "(LPaneThread$Pane;III)V"⟩
abbrev cX8_isOut : ByteArray := prog_10_method_3_code
def yX8_isOut : MethodName := ⟨RX8, "isOut", "()Z"⟩
abbrev cX8_lastCell : ByteArray := prog_10_method_4_code
def yX8_lastCell : MethodName := ⟨RX8, "lastCell", "()I"⟩
abbrev cX8_cellBehind : ByteArray := prog_10_method_5_code
def yX8_cellBehind : MethodName := ⟨RX8, "cellBehind", "(I)I"⟩
def RX9 : String := "PaneThread$Ways"
def TX9 : u_T := fun k => match k with
  | _ => ("PaneThread$Ways", "rest", "[I", true)
def tyX9 : Nat → FieldType := fun k => match k with
  | _ => .array .int
abbrev wsX90 : List Cond := u_ws RX9 TX9 1
theorem nmX9 : ∀ a, a < 1 → ∀ b, b < 1 → a ≠ b → (TX9 a).2.1 ≠ (TX9 b).2.1 := by decide +kernel
theorem tyX9_ok : ∀ k, k < 1 → parseFieldDescriptor (TX9 k).2.2.1 = some (tyX9 k) := by decide +kernel
abbrev cX9_init : ByteArray := prog_11_method_1_code
def yX9_init : MethodName := ⟨RX9, "<init>", "()V"⟩
abbrev cX9_reckon : ByteArray := prog_11_method_2_code
def yX9_reckon : MethodName := ⟨RX9, "reckon", "(LPaneThread$Pane;Z)V"⟩
abbrev cX9_leastBelow : ByteArray := prog_11_method_3_code
def yX9_leastBelow : MethodName := ⟨RX9, "leastBelow", "(LPaneThread$Pane;IZ)I"⟩
abbrev cX9_costOver : ByteArray := prog_11_method_4_code
def yX9_costOver : MethodName := ⟨RX9, "costOver", "(LPaneThread$Pane;IZ)I"⟩
abbrev cX9_leastStart : ByteArray := prog_11_method_5_code
def yX9_leastStart : MethodName := ⟨RX9, "leastStart", "()I"⟩
abbrev cX9_endFrom : ByteArray := prog_11_method_6_code
def yX9_endFrom : MethodName := ⟨RX9, "endFrom", "(LPaneThread$Pane;I)I"⟩
abbrev cX9_downOn : ByteArray := prog_11_method_7_code
def yX9_downOn : MethodName := ⟨RX9, "downOn", "(LPaneThread$Pane;I)I"⟩
def RX10 : String := "PaneThread"
def TX10 : u_T := fun k => match k with
  | 0 => ("PaneThread", "findings", "LPaneThread$Findings;", true)
  | 1 => ("PaneThread", "scene", "LPaneThread$Scene;", true)
  | 2 => ("PaneThread", "kept", "LPaneThread$Scene;", true)
  | 3 => ("PaneThread", "isKept", "Z", false)
  | 4 => ("PaneThread", "tape", "LPaneThread$Tape;", true)
  | 5 => ("PaneThread", "reader", "LPaneThread$Reader;", true)
  | 6 => ("PaneThread", "sheets", "[LPaneThread$Sheet;", true)
  | 7 => ("PaneThread", "guess", "LPaneThread$Pane;", true)
  | 8 => ("PaneThread", "walk", "LPaneThread$Walk;", true)
  | 9 => ("PaneThread", "otherWalk", "LPaneThread$Walk;", true)
  | _ => ("PaneThread", "descent", "LPaneThread$Ways;", true)
def tyX10 : Nat → FieldType := fun k => match k with
  | 0 => .object "PaneThread$Findings"
  | 1 => .object "PaneThread$Scene"
  | 2 => .object "PaneThread$Scene"
  | 3 => .boolean
  | 4 => .object "PaneThread$Tape"
  | 5 => .object "PaneThread$Reader"
  | 6 => .array (.object "PaneThread$Sheet")
  | 7 => .object "PaneThread$Pane"
  | 8 => .object "PaneThread$Walk"
  | 9 => .object "PaneThread$Walk"
  | _ => .object "PaneThread$Ways"
abbrev wsX100 : List Cond := u_ws RX10 TX10 11
theorem nmX10 : ∀ a, a < 11 → ∀ b, b < 11 → a ≠ b → (TX10 a).2.1 ≠ (TX10 b).2.1 := by decide +kernel
theorem tyX10_ok : ∀ k, k < 11 → parseFieldDescriptor (TX10 k).2.2.1 = some (tyX10 k) := by decide +kernel
abbrev cX10_init : ByteArray := prog_1_method_1_code
def yX10_init : MethodName := ⟨RX10, "<init>", "()V"⟩
abbrev cX10_cellOf : ByteArray := prog_1_method_2_code
def yX10_cellOf : MethodName := ⟨RX10, "cellOf", "(II)I"⟩
abbrev cX10_dirt : ByteArray := prog_1_method_3_code
def yX10_dirt : MethodName := ⟨RX10, "dirt", "(II)I"⟩
abbrev cX10_set : ByteArray := prog_1_method_4_code
def yX10_set : MethodName := ⟨RX10, "set", "(II)I"⟩
abbrev cX10_scatter : ByteArray := prog_1_method_5_code
def yX10_scatter : MethodName := ⟨RX10, "scatter", "(I)I"⟩
abbrev cX10_clean : ByteArray := prog_1_method_6_code
def yX10_clean : MethodName := ⟨RX10, "clean", "(I)I"⟩
abbrev cX10_finger : ByteArray := prog_1_method_7_code
def yX10_finger : MethodName := ⟨RX10, "finger", "(I)I"⟩
abbrev cX10_fades : ByteArray := prog_1_method_8_code
def yX10_fades : MethodName := ⟨RX10, "fades", "(I)I"⟩
abbrev cX10_drop : ByteArray := prog_1_method_9_code
def yX10_drop : MethodName := ⟨RX10, "drop", "(III)I"⟩
abbrev cX10_dropOf : ByteArray := prog_1_method_10_code
def yX10_dropOf : MethodName := ⟨RX10, "dropOf", "(II)I"⟩
abbrev cX10_tick : ByteArray := prog_1_method_11_code
def yX10_tick : MethodName := ⟨RX10, "tick", "(I)I"⟩
abbrev cX10_next : ByteArray := prog_1_method_12_code
def yX10_next : MethodName := ⟨RX10, "next", "(I)I"⟩
abbrev cX10_pour : ByteArray := prog_1_method_13_code
def yX10_pour : MethodName := ⟨RX10, "pour", "(II)I"⟩
abbrev cX10_shed : ByteArray := prog_1_method_14_code
def yX10_shed : MethodName := ⟨RX10, "shed", "(I)I"⟩
abbrev cX10_feed : ByteArray := prog_1_method_15_code
def yX10_feed : MethodName := ⟨RX10, "feed", "(II)I"⟩
abbrev cX10_wipe : ByteArray := prog_1_method_16_code
def yX10_wipe : MethodName := ⟨RX10, "wipe", "()I"⟩
abbrev cX10_program : ByteArray := prog_1_method_17_code
def yX10_program : MethodName := ⟨RX10, "program", "()I"⟩
abbrev cX10_programOf : ByteArray := prog_1_method_18_code
def yX10_programOf : MethodName := ⟨RX10, "programOf", "(II)I"⟩
abbrev cX10_play : ByteArray := prog_1_method_19_code
def yX10_play : MethodName := ⟨RX10, "play", "(I)I"⟩
abbrev cX10_path : ByteArray := prog_1_method_20_code
def yX10_path : MethodName := ⟨RX10, "path", "(IIII)I"⟩
abbrev cX10_along : ByteArray := prog_1_method_21_code
def yX10_along : MethodName := ⟨RX10, "along", "(IIII)I"⟩
abbrev cX10_least : ByteArray := prog_1_method_22_code
def yX10_least : MethodName := ⟨RX10, "least", "(IIZ)I"⟩
abbrev cX10_basin : ByteArray := prog_1_method_23_code
def yX10_basin : MethodName := ⟨RX10, "basin", "(III)I"⟩
abbrev cX10_ways : ByteArray := prog_1_method_24_code
def yX10_ways : MethodName := ⟨RX10, "ways", "(II)I"⟩
abbrev cX10_soonest : ByteArray := prog_1_method_25_code
def yX10_soonest : MethodName := ⟨RX10, "soonest", "(III)I"⟩
abbrev cX10_meet : ByteArray := prog_1_method_26_code
def yX10_meet : MethodName := ⟨RX10, "meet", "(IIII)I"⟩
abbrev cX10_edge : ByteArray := prog_1_method_27_code
def yX10_edge : MethodName := ⟨RX10, "edge", "(III)I"⟩
abbrev cX10_soft : ByteArray := prog_1_method_28_code
def yX10_soft : MethodName := ⟨RX10, "soft", "(I)I"⟩
abbrev cX10_need : ByteArray := prog_1_method_29_code
def yX10_need : MethodName := ⟨RX10, "need", "()I"⟩
abbrev cX10_open : ByteArray := prog_1_method_30_code
def yX10_open : MethodName := ⟨RX10, "open", "(II)I"⟩
abbrev cX10_seed : ByteArray := prog_1_method_31_code
def yX10_seed : MethodName := ⟨RX10, "seed", "(I)I"⟩
abbrev cX10_hold : ByteArray := prog_1_method_32_code
def yX10_hold : MethodName := ⟨RX10, "hold", "(II)I"⟩
abbrev cX10_as : ByteArray := prog_1_method_33_code
def yX10_as : MethodName := ⟨RX10, "as", "(II)I"⟩
abbrev cX10_sheet : ByteArray := prog_1_method_34_code
def yX10_sheet : MethodName := ⟨RX10, "sheet", "(III)I"⟩
abbrev cX10_write : ByteArray := prog_1_method_35_code
def yX10_write : MethodName := ⟨RX10, "write", "(III)I"⟩
abbrev cX10_copy : ByteArray := prog_1_method_36_code
def yX10_copy : MethodName := ⟨RX10, "copy", "(IIIII)I"⟩
abbrev cX10_load : ByteArray := prog_1_method_37_code
def yX10_load : MethodName := ⟨RX10, "load", "(II)I"⟩
abbrev cX10_judge : ByteArray := prog_1_method_38_code
def yX10_judge : MethodName := ⟨RX10, "judge", "(II)I"⟩
abbrev cX10_image : ByteArray := prog_1_method_39_code
def yX10_image : MethodName := ⟨RX10, "image", "()I"⟩
abbrev cX10_undo : ByteArray := prog_1_method_40_code
def yX10_undo : MethodName := ⟨RX10, "undo", "()I"⟩
abbrev cX10_tear : ByteArray := prog_1_method_41_code
def yX10_tear : MethodName := ⟨RX10, "tear", "()I"⟩
abbrev cX10_count : ByteArray := prog_1_method_42_code
def yX10_count : MethodName := ⟨RX10, "count", "(I)I"⟩
abbrev cX10_status : ByteArray := prog_1_method_43_code
def yX10_status : MethodName := ⟨RX10, "status", "(I)I"⟩
abbrev cX10_isWithin : ByteArray := prog_1_method_44_code
def yX10_isWithin : MethodName := ⟨RX10, "isWithin", "(III)Z"⟩
abbrev cX10_isCell : ByteArray := prog_1_method_45_code
def yX10_isCell : MethodName := ⟨RX10, "isCell", "(I)Z"⟩
abbrev cX10_isRow : ByteArray := prog_1_method_46_code
def yX10_isRow : MethodName := ⟨RX10, "isRow", "(I)Z"⟩
abbrev cX10_isColumn : ByteArray := prog_1_method_47_code
def yX10_isColumn : MethodName := ⟨RX10, "isColumn", "(I)Z"⟩
abbrev cX10_isKind : ByteArray := prog_1_method_48_code
def yX10_isKind : MethodName := ⟨RX10, "isKind", "(I)Z"⟩
abbrev cX10_isWater : ByteArray := prog_1_method_49_code
def yX10_isWater : MethodName := ⟨RX10, "isWater", "(I)Z"⟩
abbrev cX10_isStart : ByteArray := prog_1_method_50_code
def yX10_isStart : MethodName := ⟨RX10, "isStart", "(III)Z"⟩
abbrev cX10_isDropNumber : ByteArray := prog_1_method_51_code
def yX10_isDropNumber : MethodName := ⟨RX10, "isDropNumber", "(I)Z"⟩
abbrev cX10_isSpot : ByteArray := prog_1_method_52_code
def yX10_isSpot : MethodName := ⟨RX10, "isSpot", "(I)Z"⟩
abbrev cX10_isSheet : ByteArray := prog_1_method_53_code
def yX10_isSheet : MethodName := ⟨RX10, "isSheet", "(I)Z"⟩
abbrev cX10_isWidth : ByteArray := prog_1_method_54_code
def yX10_isWidth : MethodName := ⟨RX10, "isWidth", "(I)Z"⟩
abbrev cX10_isSetting : ByteArray := prog_1_method_55_code
def yX10_isSetting : MethodName := ⟨RX10, "isSetting", "(II)Z"⟩
abbrev cX10_isProgram : ByteArray := prog_1_method_56_code
def yX10_isProgram : MethodName := ⟨RX10, "isProgram", "(I)Z"⟩
abbrev cX10_columnOf : ByteArray := prog_1_method_57_code
def yX10_columnOf : MethodName := ⟨RX10, "columnOf", "(I)I"⟩
abbrev cX10_isOnLastRow : ByteArray := prog_1_method_58_code
def yX10_isOnLastRow : MethodName := ⟨RX10, "isOnLastRow", "(I)Z"⟩
abbrev cX10_besideOf : ByteArray := prog_1_method_59_code
def yX10_besideOf : MethodName := ⟨RX10, "besideOf", "(II)I"⟩
abbrev cX10_belowOf : ByteArray := prog_1_method_60_code
def yX10_belowOf : MethodName := ⟨RX10, "belowOf", "(II)I"⟩
abbrev cX10_isUnder : ByteArray := prog_1_method_61_code
def yX10_isUnder : MethodName := ⟨RX10, "isUnder", "(II)Z"⟩
abbrev cX10_countAbove0 : ByteArray := prog_1_method_62_code
def yX10_countAbove0 : MethodName := ⟨RX10, "countAbove0", "([I)I"⟩
abbrev cX10_sumOf : ByteArray := prog_1_method_63_code
def yX10_sumOf : MethodName := ⟨RX10, "sumOf", "([I)I"⟩
abbrev cX10_copyAll : ByteArray := prog_1_method_64_code
def yX10_copyAll : MethodName := ⟨RX10, "copyAll", "([I[I)V"⟩
def RX11 : String := "PaneThreadModel"
def TX11 : u_T := fun k => match k with
  | 0 => ("PaneThreadModel", "m", "[I", true)
  | 1 => ("PaneThreadModel", "kept", "[I", true)
  | 2 => ("PaneThreadModel", "isKept", "Z", false)
  | 3 => ("PaneThreadModel", "found", "[I", true)
  | 4 => ("PaneThreadModel", "isDry", "Z", false)
  | 5 => ("PaneThreadModel", "tape", "[I", true)
  | 6 => ("PaneThreadModel", "taped", "I", false)
  | 7 => ("PaneThreadModel", "sort", "I", false)
  | 8 => ("PaneThreadModel", "from", "I", false)
  | 9 => ("PaneThreadModel", "to", "I", false)
  | 10 => ("PaneThreadModel", "value", "I", false)
  | 11 => ("PaneThreadModel", "bad", "Z", false)
  | 12 => ("PaneThreadModel", "cells", "[I", true)
  | 13 => ("PaneThreadModel", "steps", "I", false)
  | 14 => ("PaneThreadModel", "outAt", "I", false)
  | 15 => ("PaneThreadModel", "waterThen", "I", false)
  | 16 => ("PaneThreadModel", "others", "[I", true)
  | 17 => ("PaneThreadModel", "sums", "[I", true)
  | 18 => ("PaneThreadModel", "bits", "[I", true)
  | 19 => ("PaneThreadModel", "size", "[I", true)
  | _ => ("PaneThreadModel", "number", "[I", true)
def tyX11 : Nat → FieldType := fun k => match k with
  | 0 => .array .int
  | 1 => .array .int
  | 2 => .boolean
  | 3 => .array .int
  | 4 => .boolean
  | 5 => .array .int
  | 6 => .int
  | 7 => .int
  | 8 => .int
  | 9 => .int
  | 10 => .int
  | 11 => .boolean
  | 12 => .array .int
  | 13 => .int
  | 14 => .int
  | 15 => .int
  | 16 => .array .int
  | 17 => .array .int
  | 18 => .array .int
  | 19 => .array .int
  | _ => .array .int
abbrev wsX110 : List Cond := u_ws RX11 TX11 21
theorem nmX11 : ∀ a, a < 21 → ∀ b, b < 21 → a ≠ b → (TX11 a).2.1 ≠ (TX11 b).2.1 := by decide +kernel
theorem tyX11_ok : ∀ k, k < 21 → parseFieldDescriptor (TX11 k).2.2.1 = some (tyX11 k) := by decide +kernel
abbrev cX11_init : ByteArray := prog_13_method_1_code
def yX11_init : MethodName := ⟨RX11, "<init>", "()V"⟩
abbrev cX11_finds : ByteArray := prog_13_method_2_code
def yX11_finds : MethodName := ⟨RX11, "finds", "(I)I"⟩
abbrev cX11_in : ByteArray := prog_13_method_3_code
def yX11_in : MethodName := ⟨RX11, "in", "(JJJ)Z"⟩
abbrev cX11_isCell : ByteArray := prog_13_method_4_code
def yX11_isCell : MethodName := ⟨RX11, "isCell", "(I)Z"⟩
abbrev cX11_isColumn : ByteArray := prog_13_method_5_code
def yX11_isColumn : MethodName := ⟨RX11, "isColumn", "(I)Z"⟩
abbrev cX11_isWater : ByteArray := prog_13_method_6_code
def yX11_isWater : MethodName := ⟨RX11, "isWater", "(I)Z"⟩
abbrev cX11_isKind : ByteArray := prog_13_method_7_code
def yX11_isKind : MethodName := ⟨RX11, "isKind", "(I)Z"⟩
abbrev cX11_of : ByteArray := prog_13_method_8_code
def yX11_of : MethodName := ⟨RX11, "of", "(II)I"⟩
abbrev cX11_isDrop : ByteArray := prog_13_method_9_code
def yX11_isDrop : MethodName := ⟨RX11, "isDrop", "(I)Z"⟩
abbrev cX11_drops : ByteArray := prog_13_method_10_code
def yX11_drops : MethodName := ⟨RX11, "drops", "()I"⟩
abbrev cX11_becomes : ByteArray := prog_13_method_11_code
def yX11_becomes : MethodName := ⟨RX11, "becomes", "(II)I"⟩
abbrev cX11_wetOf : ByteArray := prog_13_method_12_code
def yX11_wetOf : MethodName := ⟨RX11, "wetOf", "(I)I"⟩
abbrev cX11_holdOf : ByteArray := prog_13_method_13_code
def yX11_holdOf : MethodName := ⟨RX11, "holdOf", "(I)I"⟩
abbrev cX11_can : ByteArray := prog_13_method_14_code
def yX11_can : MethodName := ⟨RX11, "can", "(II)Z"⟩
abbrev cX11_below : ByteArray := prog_13_method_15_code
def yX11_below : MethodName := ⟨RX11, "below", "(II)I"⟩
abbrev cX11_softest : ByteArray := prog_13_method_16_code
def yX11_softest : MethodName := ⟨RX11, "softest", "(II)I"⟩
abbrev cX11_wettest : ByteArray := prog_13_method_17_code
def yX11_wettest : MethodName := ⟨RX11, "wettest", "(II)I"⟩
abbrev cX11_swung : ByteArray := prog_13_method_18_code
def yX11_swung : MethodName := ⟨RX11, "swung", "(III)I"⟩
abbrev cX11_aside : ByteArray := prog_13_method_19_code
def yX11_aside : MethodName := ⟨RX11, "aside", "(II)I"⟩
abbrev cX11_goesTo : ByteArray := prog_13_method_20_code
def yX11_goesTo : MethodName := ⟨RX11, "goesTo", "(IIII)I"⟩
abbrev cX11_isLosing : ByteArray := prog_13_method_21_code
def yX11_isLosing : MethodName := ⟨RX11, "isLosing", "(I)Z"⟩
abbrev cX11_cellOf : ByteArray := prog_13_method_22_code
def yX11_cellOf : MethodName := ⟨RX11, "cellOf", "(II)I"⟩
abbrev cX11_dirt : ByteArray := prog_13_method_23_code
def yX11_dirt : MethodName := ⟨RX11, "dirt", "(II)I"⟩
abbrev cX11_set : ByteArray := prog_13_method_24_code
def yX11_set : MethodName := ⟨RX11, "set", "(II)I"⟩
abbrev cX11_draw : ByteArray := prog_13_method_25_code
def yX11_draw : MethodName := ⟨RX11, "draw", "()I"⟩
abbrev cX11_dirty : ByteArray := prog_13_method_26_code
def yX11_dirty : MethodName := ⟨RX11, "dirty", "()I"⟩
abbrev cX11_scatter : ByteArray := prog_13_method_27_code
def yX11_scatter : MethodName := ⟨RX11, "scatter", "(I)I"⟩
abbrev cX11_clean : ByteArray := prog_13_method_28_code
def yX11_clean : MethodName := ⟨RX11, "clean", "(I)I"⟩
abbrev cX11_fingers : ByteArray := prog_13_method_29_code
def yX11_fingers : MethodName := ⟨RX11, "fingers", "(I)I"⟩
abbrev cX11_finger : ByteArray := prog_13_method_30_code
def yX11_finger : MethodName := ⟨RX11, "finger", "(I)I"⟩
abbrev cX11_fades : ByteArray := prog_13_method_31_code
def yX11_fades : MethodName := ⟨RX11, "fades", "(I)I"⟩
abbrev cX11_comes : ByteArray := prog_13_method_32_code
def yX11_comes : MethodName := ⟨RX11, "comes", "(III)I"⟩
abbrev cX11_drop : ByteArray := prog_13_method_33_code
def yX11_drop : MethodName := ⟨RX11, "drop", "(III)I"⟩
abbrev cX11_dropOf : ByteArray := prog_13_method_34_code
def yX11_dropOf : MethodName := ⟨RX11, "dropOf", "(II)I"⟩
abbrev cX11_nextOf : ByteArray := prog_13_method_35_code
def yX11_nextOf : MethodName := ⟨RX11, "nextOf", "(I)I"⟩
abbrev cX11_goes : ByteArray := prog_13_method_36_code
def yX11_goes : MethodName := ⟨RX11, "goes", "(I)V"⟩
abbrev cX11_blown : ByteArray := prog_13_method_37_code
def yX11_blown : MethodName := ⟨RX11, "blown", "(I)V"⟩
abbrev cX11_joins : ByteArray := prog_13_method_38_code
def yX11_joins : MethodName := ⟨RX11, "joins", "()V"⟩
abbrev cX11_ticks : ByteArray := prog_13_method_39_code
def yX11_ticks : MethodName := ⟨RX11, "ticks", "(I)V"⟩
abbrev cX11_tick : ByteArray := prog_13_method_40_code
def yX11_tick : MethodName := ⟨RX11, "tick", "(I)I"⟩
abbrev cX11_next : ByteArray := prog_13_method_41_code
def yX11_next : MethodName := ⟨RX11, "next", "(I)I"⟩
abbrev cX11_pour : ByteArray := prog_13_method_42_code
def yX11_pour : MethodName := ⟨RX11, "pour", "(II)I"⟩
abbrev cX11_shed : ByteArray := prog_13_method_43_code
def yX11_shed : MethodName := ⟨RX11, "shed", "(I)I"⟩
abbrev cX11_feed : ByteArray := prog_13_method_44_code
def yX11_feed : MethodName := ⟨RX11, "feed", "(II)I"⟩
abbrev cX11_wipe : ByteArray := prog_13_method_45_code
def yX11_wipe : MethodName := ⟨RX11, "wipe", "()I"⟩
abbrev cX11_isByte : ByteArray := prog_13_method_46_code
def yX11_isByte : MethodName := ⟨RX11, "isByte", "(III)Z"⟩
abbrev cX11_token : ByteArray := prog_13_method_47_code
def yX11_token : MethodName := ⟨RX11, "token", "()V"⟩
abbrev cX11_isWord : ByteArray := prog_13_method_48_code
def yX11_isWord : MethodName := ⟨RX11, "isWord", "(Ljava/lang/String;)Z"⟩
abbrev cX11_isSign : ByteArray := prog_13_method_49_code
def yX11_isSign : MethodName := ⟨RX11, "isSign", "(I)Z"⟩
abbrev cX11_number : ByteArray := prog_13_method_50_code
def yX11_number : MethodName := ⟨RX11, "number", "(II)I"⟩
abbrev cX11_deedHere : ByteArray := prog_13_method_51_code
def yX11_deedHere : MethodName := ⟨RX11, "deedHere", "()I"⟩
abbrev cX11_wind : ByteArray := prog_13_method_52_code
def yX11_wind : MethodName := ⟨RX11, "wind", "()I"⟩
abbrev cX11_deed : ByteArray := prog_13_method_53_code
def yX11_deed : MethodName := ⟨RX11, "deed", "(I)V"⟩
abbrev cX11_program : ByteArray := prog_13_method_54_code
def yX11_program : MethodName := ⟨RX11, "program", "()I"⟩
abbrev cX11_isProgram : ByteArray := prog_13_method_55_code
def yX11_isProgram : MethodName := ⟨RX11, "isProgram", "(I)Z"⟩
abbrev cX11_programOf : ByteArray := prog_13_method_56_code
def yX11_programOf : MethodName := ⟨RX11, "programOf", "(II)I"⟩
abbrev cX11_does : ByteArray := prog_13_method_57_code
def yX11_does : MethodName := ⟨RX11, "does", "(III)V"⟩
abbrev cX11_play : ByteArray := prog_13_method_58_code
def yX11_play : MethodName := ⟨RX11, "play", "(I)I"⟩
abbrev cX11_goesAll : ByteArray := prog_13_method_59_code
def yX11_goesAll : MethodName := ⟨RX11, "goesAll", "(III)V"⟩
abbrev cX11_onCells : ByteArray := prog_13_method_60_code
def yX11_onCells : MethodName := ⟨RX11, "onCells", "()I"⟩
abbrev cX11_isPath : ByteArray := prog_13_method_61_code
def yX11_isPath : MethodName := ⟨RX11, "isPath", "(III)Z"⟩
abbrev cX11_path : ByteArray := prog_13_method_62_code
def yX11_path : MethodName := ⟨RX11, "path", "(IIII)I"⟩
abbrev cX11_along : ByteArray := prog_13_method_63_code
def yX11_along : MethodName := ⟨RX11, "along", "(IIII)I"⟩
abbrev cX11_least : ByteArray := prog_13_method_64_code
def yX11_least : MethodName := ⟨RX11, "least", "(IIZ)I"⟩
abbrev cX11_basin : ByteArray := prog_13_method_65_code
def yX11_basin : MethodName := ⟨RX11, "basin", "(III)I"⟩
abbrev cX11_ways : ByteArray := prog_13_method_66_code
def yX11_ways : MethodName := ⟨RX11, "ways", "(II)I"⟩
abbrev cX11_soonest : ByteArray := prog_13_method_67_code
def yX11_soonest : MethodName := ⟨RX11, "soonest", "(III)I"⟩
abbrev cX11_meet : ByteArray := prog_13_method_68_code
def yX11_meet : MethodName := ⟨RX11, "meet", "(IIII)I"⟩
abbrev cX11_edge : ByteArray := prog_13_method_69_code
def yX11_edge : MethodName := ⟨RX11, "edge", "(III)I"⟩
abbrev cX11_findSums : ByteArray := prog_13_method_70_code
def yX11_findSums : MethodName := ⟨RX11, "findSums", "()V"⟩
abbrev cX11_soft : ByteArray := prog_13_method_71_code
def yX11_soft : MethodName := ⟨RX11, "soft", "(I)I"⟩
abbrev cX11_isWay : ByteArray := prog_13_method_72_code
def yX11_isWay : MethodName := ⟨RX11, "isWay", "(I)Z"⟩
abbrev cX11_need : ByteArray := prog_13_method_73_code
def yX11_need : MethodName := ⟨RX11, "need", "()I"⟩
abbrev cX11_open : ByteArray := prog_13_method_74_code
def yX11_open : MethodName := ⟨RX11, "open", "(II)I"⟩
abbrev cX11_seed : ByteArray := prog_13_method_75_code
def yX11_seed : MethodName := ⟨RX11, "seed", "(I)I"⟩
abbrev cX11_hold : ByteArray := prog_13_method_76_code
def yX11_hold : MethodName := ⟨RX11, "hold", "(II)I"⟩
abbrev cX11_above : ByteArray := prog_13_method_77_code
def yX11_above : MethodName := ⟨RX11, "above", "(I)I"⟩
abbrev cX11_as : ByteArray := prog_13_method_78_code
def yX11_as : MethodName := ⟨RX11, "as", "(II)I"⟩
abbrev cX11_isSheet : ByteArray := prog_13_method_79_code
def yX11_isSheet : MethodName := ⟨RX11, "isSheet", "(I)Z"⟩
abbrev cX11_sheet : ByteArray := prog_13_method_80_code
def yX11_sheet : MethodName := ⟨RX11, "sheet", "(III)I"⟩
abbrev cX11_write : ByteArray := prog_13_method_81_code
def yX11_write : MethodName := ⟨RX11, "write", "(III)I"⟩
abbrev cX11_copy : ByteArray := prog_13_method_82_code
def yX11_copy : MethodName := ⟨RX11, "copy", "(IIIII)I"⟩
abbrev cX11_load : ByteArray := prog_13_method_83_code
def yX11_load : MethodName := ⟨RX11, "load", "(II)I"⟩
abbrev cX11_judge : ByteArray := prog_13_method_84_code
def yX11_judge : MethodName := ⟨RX11, "judge", "(II)I"⟩
abbrev cX11_image : ByteArray := prog_13_method_85_code
def yX11_image : MethodName := ⟨RX11, "image", "()I"⟩
abbrev cX11_undo : ByteArray := prog_13_method_86_code
def yX11_undo : MethodName := ⟨RX11, "undo", "()I"⟩
abbrev cX11_tear : ByteArray := prog_13_method_87_code
def yX11_tear : MethodName := ⟨RX11, "tear", "()I"⟩
abbrev cX11_count : ByteArray := prog_13_method_88_code
def yX11_count : MethodName := ⟨RX11, "count", "(I)I"⟩
abbrev cX11_status : ByteArray := prog_13_method_89_code
def yX11_status : MethodName := ⟨RX11, "status", "(I)I"⟩
def RJx145de : String := "java/io/Serializable"
def TJx145de : u_T := fun k => match k with
  | _ => ("", "", "", false)
def tyJx145de : Nat → FieldType := fun k => match k with
  | _ => .int
abbrev wsJx145de0 : List Cond := u_ws RJx145de TJx145de 0
theorem nmJx145de : ∀ a, a < 0 → ∀ b, b < 0 → a ≠ b → (TJx145de a).2.1 ≠ (TJx145de b).2.1 := by decide +kernel
theorem tyJx145de_ok : ∀ k, k < 0 → parseFieldDescriptor (TJx145de k).2.2.1 = some (tyJx145de k) := by decide +kernel
def RJx9f9b0 : String := "java/lang/CharSequence"
def TJx9f9b0 : u_T := fun k => match k with
  | _ => ("", "", "", false)
def tyJx9f9b0 : Nat → FieldType := fun k => match k with
  | _ => .int
abbrev wsJx9f9b00 : List Cond := u_ws RJx9f9b0 TJx9f9b0 0
theorem nmJx9f9b0 : ∀ a, a < 0 → ∀ b, b < 0 → a ≠ b → (TJx9f9b0 a).2.1 ≠ (TJx9f9b0 b).2.1 := by decide +kernel
theorem tyJx9f9b0_ok : ∀ k, k < 0 → parseFieldDescriptor (TJx9f9b0 k).2.2.1 = some (tyJx9f9b0 k) := by decide +kernel
def RJxb160c : String := "java/lang/Comparable"
def TJxb160c : u_T := fun k => match k with
  | _ => ("", "", "", false)
def tyJxb160c : Nat → FieldType := fun k => match k with
  | _ => .int
abbrev wsJxb160c0 : List Cond := u_ws RJxb160c TJxb160c 0
theorem nmJxb160c : ∀ a, a < 0 → ∀ b, b < 0 → a ≠ b → (TJxb160c a).2.1 ≠ (TJxb160c b).2.1 := by decide +kernel
theorem tyJxb160c_ok : ∀ k, k < 0 → parseFieldDescriptor (TJxb160c k).2.2.1 = some (tyJxb160c k) := by decide +kernel
def RJ9 : String := "java/lang/Math"
def TJ9 : u_T := fun k => match k with
  | _ => ("", "", "", false)
def tyJ9 : Nat → FieldType := fun k => match k with
  | _ => .int
abbrev wsJ90 : List Cond := u_ws RJ9 TJ9 0
theorem nmJ9 : ∀ a, a < 0 → ∀ b, b < 0 → a ≠ b → (TJ9 a).2.1 ≠ (TJ9 b).2.1 := by decide +kernel
theorem tyJ9_ok : ∀ k, k < 0 → parseFieldDescriptor (TJ9 k).2.2.1 = some (tyJ9 k) := by decide +kernel
abbrev cJ9_abs_0f7a4 : ByteArray := prog_14_method_59_code
def yJ9_abs_0f7a4 : MethodName := ⟨RJ9, "abs", "(I)I"⟩
abbrev cJ9_max_7cf53 : ByteArray := prog_14_method_65_code
def yJ9_max_7cf53 : MethodName := ⟨RJ9, "max", "(II)I"⟩
abbrev cJ9_min_7cf53 : ByteArray := prog_14_method_69_code
def yJ9_min_7cf53 : MethodName := ⟨RJ9, "min", "(II)I"⟩
def RJ0 : String := "java/lang/String"
def TJ0 : u_T := fun k => match k with
  | _ => ("", "", "", false)
def tyJ0 : Nat → FieldType := fun k => match k with
  | _ => .int
abbrev wsJ00 : List Cond := u_ws RJ0 TJ0 0
theorem nmJ0 : ∀ a, a < 0 → ∀ b, b < 0 → a ≠ b → (TJ0 a).2.1 ≠ (TJ0 b).2.1 := by decide +kernel
theorem tyJ0_ok : ∀ k, k < 0 → parseFieldDescriptor (TJ0 k).2.2.1 = some (tyJ0 k) := by decide +kernel
abbrev cJ0_length_8abf5 : ByteArray := prog_15_method_54_code
def yJ0_length_8abf5 : MethodName := ⟨RJ0, "length", "()I"⟩
abbrev cJ0_charAt_5068e : ByteArray := prog_15_method_56_code
def yJ0_charAt_5068e : MethodName := ⟨RJ0, "charAt", "(I)C"⟩
abbrev cJ0_coder_7d493 : ByteArray := prog_15_method_152_code
def yJ0_coder_7d493 : MethodName := ⟨RJ0, "coder", "()B"⟩
abbrev cJ0_isLatin1_aae02 : ByteArray := prog_15_method_154_code
def yJ0_isLatin1_aae02 : MethodName := ⟨RJ0, "isLatin1", "()Z"⟩
abbrev cJ0_checkIndex_df160 : ByteArray := prog_15_method_155_code
def yJ0_checkIndex_df160 : MethodName := ⟨RJ0, "checkIndex", "(II)V"⟩
def RJ1 : String := "java/lang/StringLatin1"
def TJ1 : u_T := fun k => match k with
  | _ => ("", "", "", false)
def tyJ1 : Nat → FieldType := fun k => match k with
  | _ => .int
abbrev wsJ10 : List Cond := u_ws RJ1 TJ1 0
theorem nmJ1 : ∀ a, a < 0 → ∀ b, b < 0 → a ≠ b → (TJ1 a).2.1 ≠ (TJ1 b).2.1 := by decide +kernel
theorem tyJ1_ok : ∀ k, k < 0 → parseFieldDescriptor (TJ1 k).2.2.1 = some (tyJ1 k) := by decide +kernel
abbrev cJ1_charAt_3b067 : ByteArray := prog_16_method_2_code
def yJ1_charAt_3b067 : MethodName := ⟨RJ1, "charAt", "([BI)C"⟩
def RJ2 : String := "java/lang/StringUTF16"
def TJ2 : u_T := fun k => match k with
  | _ => ("", "", "", false)
def tyJ2 : Nat → FieldType := fun k => match k with
  | _ => .int
abbrev wsJ20 : List Cond := u_ws RJ2 TJ2 0
theorem nmJ2 : ∀ a, a < 0 → ∀ b, b < 0 → a ≠ b → (TJ2 a).2.1 ≠ (TJ2 b).2.1 := by decide +kernel
theorem tyJ2_ok : ∀ k, k < 0 → parseFieldDescriptor (TJ2 k).2.2.1 = some (tyJ2 k) := by decide +kernel
abbrev cJ2_getChar_3b067 : ByteArray := prog_17_method_5_code
def yJ2_getChar_3b067 : MethodName := ⟨RJ2, "getChar", "([BI)C"⟩
abbrev cJ2_length_9d52b : ByteArray := prog_17_method_6_code
def yJ2_length_9d52b : MethodName := ⟨RJ2, "length", "([B)I"⟩
abbrev cJ2_charAt_3b067 : ByteArray := prog_17_method_83_code
def yJ2_charAt_3b067 : MethodName := ⟨RJ2, "charAt", "([BI)C"⟩
abbrev cJ2_checkIndex_2214a : ByteArray := prog_17_method_91_code
def yJ2_checkIndex_2214a : MethodName := ⟨RJ2, "checkIndex", "(I[B)V"⟩
def RJ10 : String := "java/lang/System"
def TJ10 : u_T := fun k => match k with
  | _ => ("", "", "", false)
def tyJ10 : Nat → FieldType := fun k => match k with
  | _ => .int
abbrev wsJ100 : List Cond := u_ws RJ10 TJ10 0
theorem nmJ10 : ∀ a, a < 0 → ∀ b, b < 0 → a ≠ b → (TJ10 a).2.1 ≠ (TJ10 b).2.1 := by decide +kernel
theorem tyJ10_ok : ∀ k, k < 0 → parseFieldDescriptor (TJ10 k).2.2.1 = some (tyJ10 k) := by decide +kernel
def RJxfd54e : String := "java/lang/constant/Constable"
def TJxfd54e : u_T := fun k => match k with
  | _ => ("", "", "", false)
def tyJxfd54e : Nat → FieldType := fun k => match k with
  | _ => .int
abbrev wsJxfd54e0 : List Cond := u_ws RJxfd54e TJxfd54e 0
theorem nmJxfd54e : ∀ a, a < 0 → ∀ b, b < 0 → a ≠ b → (TJxfd54e a).2.1 ≠ (TJxfd54e b).2.1 := by decide +kernel
theorem tyJxfd54e_ok : ∀ k, k < 0 → parseFieldDescriptor (TJxfd54e k).2.2.1 = some (tyJxfd54e k) := by decide +kernel
def RJx3cf43 : String := "java/lang/constant/ConstantDesc"
def TJx3cf43 : u_T := fun k => match k with
  | _ => ("", "", "", false)
def tyJx3cf43 : Nat → FieldType := fun k => match k with
  | _ => .int
abbrev wsJx3cf430 : List Cond := u_ws RJx3cf43 TJx3cf43 0
theorem nmJx3cf43 : ∀ a, a < 0 → ∀ b, b < 0 → a ≠ b → (TJx3cf43 a).2.1 ≠ (TJx3cf43 b).2.1 := by decide +kernel
theorem tyJx3cf43_ok : ∀ k, k < 0 → parseFieldDescriptor (TJx3cf43 k).2.2.1 = some (tyJx3cf43 k) := by decide +kernel
def RJ7 : String := "java/util/Arrays"
def TJ7 : u_T := fun k => match k with
  | _ => ("", "", "", false)
def tyJ7 : Nat → FieldType := fun k => match k with
  | _ => .int
abbrev wsJ70 : List Cond := u_ws RJ7 TJ7 0
theorem nmJ7 : ∀ a, a < 0 → ∀ b, b < 0 → a ≠ b → (TJ7 a).2.1 ≠ (TJ7 b).2.1 := by decide +kernel
theorem tyJ7_ok : ∀ k, k < 0 → parseFieldDescriptor (TJ7 k).2.2.1 = some (tyJ7 k) := by decide +kernel
abbrev cJ7_fill_53178 : ByteArray := prog_19_method_103_code
def yJ7_fill_53178 : MethodName := ⟨RJ7, "fill", "([II)V"⟩
def RJ3 : String := "jdk/internal/util/Preconditions"
def TJ3 : u_T := fun k => match k with
  | _ => ("", "", "", false)
def tyJ3 : Nat → FieldType := fun k => match k with
  | _ => .int
abbrev wsJ30 : List Cond := u_ws RJ3 TJ3 0
theorem nmJ3 : ∀ a, a < 0 → ∀ b, b < 0 → a ≠ b → (TJ3 a).2.1 ≠ (TJ3 b).2.1 := by decide +kernel
theorem tyJ3_ok : ∀ k, k < 0 → parseFieldDescriptor (TJ3 k).2.2.1 = some (tyJ3 k) := by decide +kernel
abbrev cJ3_checkIndex_8e157 : ByteArray := prog_20_method_11_code
def yJ3_checkIndex_8e157 : MethodName := ⟨RJ3, "checkIndex", "(IILjava/util/function/BiFunction;)I"⟩
def RL : String := "PaneThreadLaw"
abbrev cL_law : ByteArray := code
def yL_law : MethodName := ⟨RL, "law", "([I)Z"⟩
abbrev vwCl : List vw_C := [(RX0, TX0, 4), (RX1, TX1, 1), (RX2, TX2, 6), (RX3, TX3, 5), (RX4, TX4, 5), (RX5, TX5, 7), (RX6, TX6, 3), (RX7, TX7, 2), (RX8, TX8, 4), (RX9, TX9, 1), (RX10, TX10, 11), (RX11, TX11, 21)]
end
section
theorem dX0_init_0 : decode cX0_init 0 = .ok (.aload_n 0, 1) := by decide +kernel
theorem dX0_init_1 : decode cX0_init 1 = .ok (.invokespecial 3, 3) := by decide +kernel
theorem dX0_init_4 : decode cX0_init 4 = .ok (.aload_n 0, 1) := by decide +kernel
theorem dX0_init_5 : decode cX0_init 5 = .ok (.bipush 8, 2) := by decide +kernel
theorem dX0_init_7 : decode cX0_init 7 = .ok (.newarray .int, 2) := by decide +kernel
theorem dX0_init_9 : decode cX0_init 9 = .ok (.putfield 9, 3) := by decide +kernel
theorem dX0_init_12 : decode cX0_init 12 = .ok (.aload_n 0, 1) := by decide +kernel
theorem dX0_init_13 : decode cX0_init 13 = .ok (.bipush 8, 2) := by decide +kernel
theorem dX0_init_15 : decode cX0_init 15 = .ok (.newarray .int, 2) := by decide +kernel
theorem dX0_init_17 : decode cX0_init 17 = .ok (.putfield 15, 3) := by decide +kernel
theorem dX0_init_20 : decode cX0_init 20 = .ok (.aload_n 0, 1) := by decide +kernel
theorem dX0_init_21 : decode cX0_init 21 = .ok (.bipush 8, 2) := by decide +kernel
theorem dX0_init_23 : decode cX0_init 23 = .ok (.newarray .int, 2) := by decide +kernel
theorem dX0_init_25 : decode cX0_init 25 = .ok (.putfield 18, 3) := by decide +kernel
theorem dX0_init_28 : decode cX0_init 28 = .ok (.aload_n 0, 1) := by decide +kernel
theorem dX0_init_29 : decode cX0_init 29 = .ok (.bipush 8, 2) := by decide +kernel
theorem dX0_init_31 : decode cX0_init 31 = .ok (.newarray .int, 2) := by decide +kernel
theorem dX0_init_33 : decode cX0_init 33 = .ok (.putfield 21, 3) := by decide +kernel
theorem dX0_init_36 : decode cX0_init 36 = .ok (.return_, 1) := by decide +kernel
theorem dX0_become_0 : decode cX0_become 0 = .ok (.aload_n 1, 1) := by decide +kernel
theorem dX0_become_1 : decode cX0_become 1 = .ok (.getfield 9, 3) := by decide +kernel
theorem dX0_become_4 : decode cX0_become 4 = .ok (.aload_n 0, 1) := by decide +kernel
theorem dX0_become_5 : decode cX0_become 5 = .ok (.getfield 9, 3) := by decide +kernel
theorem dX0_become_8 : decode cX0_become 8 = .ok (.invokestatic 24, 3) := by decide +kernel
theorem dX0_become_11 : decode cX0_become 11 = .ok (.aload_n 1, 1) := by decide +kernel
theorem dX0_become_12 : decode cX0_become 12 = .ok (.getfield 15, 3) := by decide +kernel
theorem dX0_become_15 : decode cX0_become 15 = .ok (.aload_n 0, 1) := by decide +kernel
theorem dX0_become_16 : decode cX0_become 16 = .ok (.getfield 15, 3) := by decide +kernel
theorem dX0_become_19 : decode cX0_become 19 = .ok (.invokestatic 24, 3) := by decide +kernel
theorem dX0_become_22 : decode cX0_become 22 = .ok (.aload_n 1, 1) := by decide +kernel
theorem dX0_become_23 : decode cX0_become 23 = .ok (.getfield 18, 3) := by decide +kernel
theorem dX0_become_26 : decode cX0_become 26 = .ok (.aload_n 0, 1) := by decide +kernel
theorem dX0_become_27 : decode cX0_become 27 = .ok (.getfield 18, 3) := by decide +kernel
theorem dX0_become_30 : decode cX0_become 30 = .ok (.invokestatic 24, 3) := by decide +kernel
theorem dX0_become_33 : decode cX0_become 33 = .ok (.aload_n 1, 1) := by decide +kernel
theorem dX0_become_34 : decode cX0_become 34 = .ok (.getfield 21, 3) := by decide +kernel
theorem dX0_become_37 : decode cX0_become 37 = .ok (.aload_n 0, 1) := by decide +kernel
theorem dX0_become_38 : decode cX0_become 38 = .ok (.getfield 21, 3) := by decide +kernel
theorem dX0_become_41 : decode cX0_become 41 = .ok (.invokestatic 24, 3) := by decide +kernel
theorem dX0_become_44 : decode cX0_become 44 = .ok (.return_, 1) := by decide +kernel
theorem dX0_isThere_0 : decode cX0_isThere 0 = .ok (.aload_n 0, 1) := by decide +kernel
theorem dX0_isThere_1 : decode cX0_isThere 1 = .ok (.getfield 18, 3) := by decide +kernel
theorem dX0_isThere_4 : decode cX0_isThere 4 = .ok (.iload_n 1, 1) := by decide +kernel
theorem dX0_isThere_5 : decode cX0_isThere 5 = .ok (.iaload, 1) := by decide +kernel
theorem dX0_isThere_6 : decode cX0_isThere 6 = .ok (.ifCond .le 7, 3) := by decide +kernel
theorem dX0_isThere_9 : decode cX0_isThere 9 = .ok (.iconst 1, 1) := by decide +kernel
theorem dX0_isThere_10 : decode cX0_isThere 10 = .ok (.goto 4, 3) := by decide +kernel
theorem dX0_isThere_13 : decode cX0_isThere 13 = .ok (.iconst 0, 1) := by decide +kernel
theorem dX0_isThere_14 : decode cX0_isThere 14 = .ok (.ireturn, 1) := by decide +kernel
theorem dX0_howMany_0 : decode cX0_howMany 0 = .ok (.aload_n 0, 1) := by decide +kernel
theorem dX0_howMany_1 : decode cX0_howMany 1 = .ok (.getfield 18, 3) := by decide +kernel
theorem dX0_howMany_4 : decode cX0_howMany 4 = .ok (.invokestatic 28, 3) := by decide +kernel
theorem dX0_howMany_7 : decode cX0_howMany 7 = .ok (.ireturn, 1) := by decide +kernel
theorem dX0_leastFree_0 : decode cX0_leastFree 0 = .ok (.iconst 0, 1) := by decide +kernel
theorem dX0_leastFree_1 : decode cX0_leastFree 1 = .ok (.istore_n 1, 1) := by decide +kernel
theorem dX0_leastFree_2 : decode cX0_leastFree 2 = .ok (.iload_n 1, 1) := by decide +kernel
theorem dX0_leastFree_3 : decode cX0_leastFree 3 = .ok (.bipush 8, 2) := by decide +kernel
theorem dX0_leastFree_5 : decode cX0_leastFree 5 = .ok (.if_icmp .ge 19, 3) := by decide +kernel
theorem dX0_leastFree_8 : decode cX0_leastFree 8 = .ok (.aload_n 0, 1) := by decide +kernel
theorem dX0_leastFree_9 : decode cX0_leastFree 9 = .ok (.iload_n 1, 1) := by decide +kernel
theorem dX0_leastFree_10 : decode cX0_leastFree 10 = .ok (.invokevirtual 32, 3) := by decide +kernel
theorem dX0_leastFree_13 : decode cX0_leastFree 13 = .ok (.ifCond .ne 5, 3) := by decide +kernel
theorem dX0_leastFree_16 : decode cX0_leastFree 16 = .ok (.iload_n 1, 1) := by decide +kernel
theorem dX0_leastFree_17 : decode cX0_leastFree 17 = .ok (.ireturn, 1) := by decide +kernel
theorem dX0_leastFree_18 : decode cX0_leastFree 18 = .ok (.iinc 1 1, 3) := by decide +kernel
theorem dX0_leastFree_21 : decode cX0_leastFree 21 = .ok (.goto (-19), 3) := by decide +kernel
theorem dX0_leastFree_24 : decode cX0_leastFree 24 = .ok (.iconst (-1), 1) := by decide +kernel
theorem dX0_leastFree_25 : decode cX0_leastFree 25 = .ok (.ireturn, 1) := by decide +kernel
theorem dX0_leastOn_0 : decode cX0_leastOn 0 = .ok (.iconst 0, 1) := by decide +kernel
theorem dX0_leastOn_1 : decode cX0_leastOn 1 = .ok (.istore_n 2, 1) := by decide +kernel
theorem dX0_leastOn_2 : decode cX0_leastOn 2 = .ok (.iload_n 2, 1) := by decide +kernel
theorem dX0_leastOn_3 : decode cX0_leastOn 3 = .ok (.bipush 8, 2) := by decide +kernel
theorem dX0_leastOn_5 : decode cX0_leastOn 5 = .ok (.if_icmp .ge 29, 3) := by decide +kernel
theorem dX0_leastOn_8 : decode cX0_leastOn 8 = .ok (.aload_n 0, 1) := by decide +kernel
theorem dX0_leastOn_9 : decode cX0_leastOn 9 = .ok (.iload_n 2, 1) := by decide +kernel
theorem dX0_leastOn_10 : decode cX0_leastOn 10 = .ok (.invokevirtual 32, 3) := by decide +kernel
theorem dX0_leastOn_13 : decode cX0_leastOn 13 = .ok (.ifCond .eq 15, 3) := by decide +kernel
theorem dX0_leastOn_16 : decode cX0_leastOn 16 = .ok (.aload_n 0, 1) := by decide +kernel
theorem dX0_leastOn_17 : decode cX0_leastOn 17 = .ok (.getfield 15, 3) := by decide +kernel
theorem dX0_leastOn_20 : decode cX0_leastOn 20 = .ok (.iload_n 2, 1) := by decide +kernel
theorem dX0_leastOn_21 : decode cX0_leastOn 21 = .ok (.iaload, 1) := by decide +kernel
theorem dX0_leastOn_22 : decode cX0_leastOn 22 = .ok (.iload_n 1, 1) := by decide +kernel
theorem dX0_leastOn_23 : decode cX0_leastOn 23 = .ok (.if_icmp .ne 5, 3) := by decide +kernel
theorem dX0_leastOn_26 : decode cX0_leastOn 26 = .ok (.iload_n 2, 1) := by decide +kernel
theorem dX0_leastOn_27 : decode cX0_leastOn 27 = .ok (.ireturn, 1) := by decide +kernel
theorem dX0_leastOn_28 : decode cX0_leastOn 28 = .ok (.iinc 2 1, 3) := by decide +kernel
theorem dX0_leastOn_31 : decode cX0_leastOn 31 = .ok (.goto (-29), 3) := by decide +kernel
theorem dX0_leastOn_34 : decode cX0_leastOn 34 = .ok (.iconst (-1), 1) := by decide +kernel
theorem dX0_leastOn_35 : decode cX0_leastOn 35 = .ok (.ireturn, 1) := by decide +kernel
theorem dX0_addWater_0 : decode cX0_addWater 0 = .ok (.aload_n 0, 1) := by decide +kernel
theorem dX0_addWater_1 : decode cX0_addWater 1 = .ok (.getfield 18, 3) := by decide +kernel
theorem dX0_addWater_4 : decode cX0_addWater 4 = .ok (.iload_n 1, 1) := by decide +kernel
theorem dX0_addWater_5 : decode cX0_addWater 5 = .ok (.bipush 99, 2) := by decide +kernel
theorem dX0_addWater_7 : decode cX0_addWater 7 = .ok (.aload_n 0, 1) := by decide +kernel
theorem dX0_addWater_8 : decode cX0_addWater 8 = .ok (.getfield 18, 3) := by decide +kernel
theorem dX0_addWater_11 : decode cX0_addWater 11 = .ok (.iload_n 1, 1) := by decide +kernel
theorem dX0_addWater_12 : decode cX0_addWater 12 = .ok (.iaload, 1) := by decide +kernel
theorem dX0_addWater_13 : decode cX0_addWater 13 = .ok (.iload_n 2, 1) := by decide +kernel
theorem dX0_addWater_14 : decode cX0_addWater 14 = .ok (.iadd, 1) := by decide +kernel
theorem dX0_addWater_15 : decode cX0_addWater 15 = .ok (.invokestatic 36, 3) := by decide +kernel
theorem dX0_addWater_18 : decode cX0_addWater 18 = .ok (.iastore, 1) := by decide +kernel
theorem dX0_addWater_19 : decode cX0_addWater 19 = .ok (.return_, 1) := by decide +kernel
theorem dX0_join_0 : decode cX0_join 0 = .ok (.iconst 0, 1) := by decide +kernel
theorem dX0_join_1 : decode cX0_join 1 = .ok (.istore_n 1, 1) := by decide +kernel
theorem dX0_join_2 : decode cX0_join 2 = .ok (.iload_n 1, 1) := by decide +kernel
theorem dX0_join_3 : decode cX0_join 3 = .ok (.bipush 8, 2) := by decide +kernel
theorem dX0_join_5 : decode cX0_join 5 = .ok (.if_icmp .ge 62, 3) := by decide +kernel
theorem dX0_join_8 : decode cX0_join 8 = .ok (.aload_n 0, 1) := by decide +kernel
theorem dX0_join_9 : decode cX0_join 9 = .ok (.iload_n 1, 1) := by decide +kernel
theorem dX0_join_10 : decode cX0_join 10 = .ok (.invokevirtual 32, 3) := by decide +kernel
theorem dX0_join_13 : decode cX0_join 13 = .ok (.ifCond .eq 16, 3) := by decide +kernel
theorem dX0_join_16 : decode cX0_join 16 = .ok (.aload_n 0, 1) := by decide +kernel
theorem dX0_join_17 : decode cX0_join 17 = .ok (.aload_n 0, 1) := by decide +kernel
theorem dX0_join_18 : decode cX0_join 18 = .ok (.getfield 15, 3) := by decide +kernel
theorem dX0_join_21 : decode cX0_join 21 = .ok (.iload_n 1, 1) := by decide +kernel
theorem dX0_join_22 : decode cX0_join 22 = .ok (.iaload, 1) := by decide +kernel
theorem dX0_join_23 : decode cX0_join 23 = .ok (.invokevirtual 42, 3) := by decide +kernel
theorem dX0_join_26 : decode cX0_join 26 = .ok (.goto 4, 3) := by decide +kernel
theorem dX0_join_29 : decode cX0_join 29 = .ok (.iload_n 1, 1) := by decide +kernel
theorem dX0_join_30 : decode cX0_join 30 = .ok (.istore_n 2, 1) := by decide +kernel
theorem dX0_join_31 : decode cX0_join 31 = .ok (.iload_n 2, 1) := by decide +kernel
theorem dX0_join_32 : decode cX0_join 32 = .ok (.iload_n 1, 1) := by decide +kernel
theorem dX0_join_33 : decode cX0_join 33 = .ok (.if_icmp .eq 28, 3) := by decide +kernel
theorem dX0_join_36 : decode cX0_join 36 = .ok (.iload_n 2, 1) := by decide +kernel
theorem dX0_join_37 : decode cX0_join 37 = .ok (.invokestatic 46, 3) := by decide +kernel
theorem dX0_join_40 : decode cX0_join 40 = .ok (.ifCond .eq 21, 3) := by decide +kernel
theorem dX0_join_43 : decode cX0_join 43 = .ok (.aload_n 0, 1) := by decide +kernel
theorem dX0_join_44 : decode cX0_join 44 = .ok (.iload_n 2, 1) := by decide +kernel
theorem dX0_join_45 : decode cX0_join 45 = .ok (.aload_n 0, 1) := by decide +kernel
theorem dX0_join_46 : decode cX0_join 46 = .ok (.getfield 18, 3) := by decide +kernel
theorem dX0_join_49 : decode cX0_join 49 = .ok (.iload_n 1, 1) := by decide +kernel
theorem dX0_join_50 : decode cX0_join 50 = .ok (.iaload, 1) := by decide +kernel
theorem dX0_join_51 : decode cX0_join 51 = .ok (.invokevirtual 49, 3) := by decide +kernel
theorem dX0_join_54 : decode cX0_join 54 = .ok (.aload_n 0, 1) := by decide +kernel
theorem dX0_join_55 : decode cX0_join 55 = .ok (.getfield 18, 3) := by decide +kernel
theorem dX0_join_58 : decode cX0_join 58 = .ok (.iload_n 1, 1) := by decide +kernel
theorem dX0_join_59 : decode cX0_join 59 = .ok (.iconst 0, 1) := by decide +kernel
theorem dX0_join_60 : decode cX0_join 60 = .ok (.iastore, 1) := by decide +kernel
theorem dX0_join_61 : decode cX0_join 61 = .ok (.iinc 1 1, 3) := by decide +kernel
theorem dX0_join_64 : decode cX0_join 64 = .ok (.goto (-62), 3) := by decide +kernel
theorem dX0_join_67 : decode cX0_join 67 = .ok (.return_, 1) := by decide +kernel
theorem dX1_init_0 : decode cX1_init 0 = .ok (.aload_n 0, 1) := by decide +kernel
theorem dX1_init_1 : decode cX1_init 1 = .ok (.invokespecial 3, 3) := by decide +kernel
theorem dX1_init_4 : decode cX1_init 4 = .ok (.aload_n 0, 1) := by decide +kernel
theorem dX1_init_5 : decode cX1_init 5 = .ok (.bipush 7, 2) := by decide +kernel
theorem dX1_init_7 : decode cX1_init 7 = .ok (.newarray .int, 2) := by decide +kernel
theorem dX1_init_9 : decode cX1_init 9 = .ok (.putfield 9, 3) := by decide +kernel
theorem dX1_init_12 : decode cX1_init 12 = .ok (.return_, 1) := by decide +kernel
theorem dX1_tell_0 : decode cX1_tell 0 = .ok (.aload_n 0, 1) := by decide +kernel
theorem dX1_tell_1 : decode cX1_tell 1 = .ok (.getfield 9, 3) := by decide +kernel
theorem dX1_tell_4 : decode cX1_tell 4 = .ok (.iload_n 1, 1) := by decide +kernel
theorem dX1_tell_5 : decode cX1_tell 5 = .ok (.dup2, 1) := by decide +kernel
theorem dX1_tell_6 : decode cX1_tell 6 = .ok (.iaload, 1) := by decide +kernel
theorem dX1_tell_7 : decode cX1_tell 7 = .ok (.iconst 1, 1) := by decide +kernel
theorem dX1_tell_8 : decode cX1_tell 8 = .ok (.iadd, 1) := by decide +kernel
theorem dX1_tell_9 : decode cX1_tell 9 = .ok (.iastore, 1) := by decide +kernel
theorem dX1_tell_10 : decode cX1_tell 10 = .ok (.ldc 15, 2) := by decide +kernel
theorem dX1_tell_12 : decode cX1_tell 12 = .ok (.iload_n 1, 1) := by decide +kernel
theorem dX1_tell_13 : decode cX1_tell 13 = .ok (.isub, 1) := by decide +kernel
theorem dX1_tell_14 : decode cX1_tell 14 = .ok (.ireturn, 1) := by decide +kernel
theorem dX2_init_0 : decode cX2_init 0 = .ok (.aload_n 0, 1) := by decide +kernel
theorem dX2_init_1 : decode cX2_init 1 = .ok (.invokespecial 3, 3) := by decide +kernel
theorem dX2_init_4 : decode cX2_init 4 = .ok (.aload_n 0, 1) := by decide +kernel
theorem dX2_init_5 : decode cX2_init 5 = .ok (.sipush 192, 3) := by decide +kernel
theorem dX2_init_8 : decode cX2_init 8 = .ok (.newarray .int, 2) := by decide +kernel
theorem dX2_init_10 : decode cX2_init 10 = .ok (.putfield 9, 3) := by decide +kernel
theorem dX2_init_13 : decode cX2_init 13 = .ok (.aload_n 0, 1) := by decide +kernel
theorem dX2_init_14 : decode cX2_init 14 = .ok (.sipush 192, 3) := by decide +kernel
theorem dX2_init_17 : decode cX2_init 17 = .ok (.newarray .int, 2) := by decide +kernel
theorem dX2_init_19 : decode cX2_init 19 = .ok (.putfield 15, 3) := by decide +kernel
theorem dX2_init_22 : decode cX2_init 22 = .ok (.aload_n 0, 1) := by decide +kernel
theorem dX2_init_23 : decode cX2_init 23 = .ok (.iconst 3, 1) := by decide +kernel
theorem dX2_init_24 : decode cX2_init 24 = .ok (.putfield 18, 3) := by decide +kernel
theorem dX2_init_27 : decode cX2_init 27 = .ok (.aload_n 0, 1) := by decide +kernel
theorem dX2_init_28 : decode cX2_init 28 = .ok (.iconst 0, 1) := by decide +kernel
theorem dX2_init_29 : decode cX2_init 29 = .ok (.putfield 22, 3) := by decide +kernel
theorem dX2_init_32 : decode cX2_init 32 = .ok (.aload_n 0, 1) := by decide +kernel
theorem dX2_init_33 : decode cX2_init 33 = .ok (.iconst 1, 1) := by decide +kernel
theorem dX2_init_34 : decode cX2_init 34 = .ok (.putfield 25, 3) := by decide +kernel
theorem dX2_init_37 : decode cX2_init 37 = .ok (.aload_n 0, 1) := by decide +kernel
theorem dX2_init_38 : decode cX2_init 38 = .ok (.iconst 3, 1) := by decide +kernel
theorem dX2_init_39 : decode cX2_init 39 = .ok (.newarray .int, 2) := by decide +kernel
theorem dX2_init_41 : decode cX2_init 41 = .ok (.putfield 28, 3) := by decide +kernel
theorem dX2_init_44 : decode cX2_init 44 = .ok (.return_, 1) := by decide +kernel
theorem dX2_become_0 : decode cX2_become 0 = .ok (.aload_n 1, 1) := by decide +kernel
theorem dX2_become_1 : decode cX2_become 1 = .ok (.getfield 9, 3) := by decide +kernel
theorem dX2_become_4 : decode cX2_become 4 = .ok (.aload_n 0, 1) := by decide +kernel
theorem dX2_become_5 : decode cX2_become 5 = .ok (.getfield 9, 3) := by decide +kernel
theorem dX2_become_8 : decode cX2_become 8 = .ok (.invokestatic 31, 3) := by decide +kernel
theorem dX2_become_11 : decode cX2_become 11 = .ok (.aload_n 1, 1) := by decide +kernel
theorem dX2_become_12 : decode cX2_become 12 = .ok (.getfield 15, 3) := by decide +kernel
theorem dX2_become_15 : decode cX2_become 15 = .ok (.aload_n 0, 1) := by decide +kernel
theorem dX2_become_16 : decode cX2_become 16 = .ok (.getfield 15, 3) := by decide +kernel
theorem dX2_become_19 : decode cX2_become 19 = .ok (.invokestatic 31, 3) := by decide +kernel
theorem dX2_become_22 : decode cX2_become 22 = .ok (.aload_n 0, 1) := by decide +kernel
theorem dX2_become_23 : decode cX2_become 23 = .ok (.aload_n 1, 1) := by decide +kernel
theorem dX2_become_24 : decode cX2_become 24 = .ok (.getfield 18, 3) := by decide +kernel
theorem dX2_become_27 : decode cX2_become 27 = .ok (.putfield 18, 3) := by decide +kernel
theorem dX2_become_30 : decode cX2_become 30 = .ok (.aload_n 0, 1) := by decide +kernel
theorem dX2_become_31 : decode cX2_become 31 = .ok (.aload_n 1, 1) := by decide +kernel
theorem dX2_become_32 : decode cX2_become 32 = .ok (.getfield 22, 3) := by decide +kernel
theorem dX2_become_35 : decode cX2_become 35 = .ok (.putfield 22, 3) := by decide +kernel
theorem dX2_become_38 : decode cX2_become 38 = .ok (.aload_n 0, 1) := by decide +kernel
theorem dX2_become_39 : decode cX2_become 39 = .ok (.aload_n 1, 1) := by decide +kernel
theorem dX2_become_40 : decode cX2_become 40 = .ok (.getfield 25, 3) := by decide +kernel
theorem dX2_become_43 : decode cX2_become 43 = .ok (.putfield 25, 3) := by decide +kernel
theorem dX2_become_46 : decode cX2_become 46 = .ok (.return_, 1) := by decide +kernel
theorem dX2_holdOf_0 : decode cX2_holdOf 0 = .ok (.iconst 3, 1) := by decide +kernel
theorem dX2_holdOf_1 : decode cX2_holdOf 1 = .ok (.aload_n 0, 1) := by decide +kernel
theorem dX2_holdOf_2 : decode cX2_holdOf 2 = .ok (.getfield 9, 3) := by decide +kernel
theorem dX2_holdOf_5 : decode cX2_holdOf 5 = .ok (.iload_n 1, 1) := by decide +kernel
theorem dX2_holdOf_6 : decode cX2_holdOf 6 = .ok (.iaload, 1) := by decide +kernel
theorem dX2_holdOf_7 : decode cX2_holdOf 7 = .ok (.imul, 1) := by decide +kernel
theorem dX2_holdOf_8 : decode cX2_holdOf 8 = .ok (.aload_n 0, 1) := by decide +kernel
theorem dX2_holdOf_9 : decode cX2_holdOf 9 = .ok (.getfield 15, 3) := by decide +kernel
theorem dX2_holdOf_12 : decode cX2_holdOf 12 = .ok (.iload_n 1, 1) := by decide +kernel
theorem dX2_holdOf_13 : decode cX2_holdOf 13 = .ok (.iaload, 1) := by decide +kernel
theorem dX2_holdOf_14 : decode cX2_holdOf 14 = .ok (.bipush 10, 2) := by decide +kernel
theorem dX2_holdOf_16 : decode cX2_holdOf 16 = .ok (.idiv, 1) := by decide +kernel
theorem dX2_holdOf_17 : decode cX2_holdOf 17 = .ok (.isub, 1) := by decide +kernel
theorem dX2_holdOf_18 : decode cX2_holdOf 18 = .ok (.istore_n 2, 1) := by decide +kernel
theorem dX2_holdOf_19 : decode cX2_holdOf 19 = .ok (.iload_n 2, 1) := by decide +kernel
theorem dX2_holdOf_20 : decode cX2_holdOf 20 = .ok (.ifCond .le 7, 3) := by decide +kernel
theorem dX2_holdOf_23 : decode cX2_holdOf 23 = .ok (.iload_n 2, 1) := by decide +kernel
theorem dX2_holdOf_24 : decode cX2_holdOf 24 = .ok (.goto 4, 3) := by decide +kernel
theorem dX2_holdOf_27 : decode cX2_holdOf 27 = .ok (.iconst 0, 1) := by decide +kernel
theorem dX2_holdOf_28 : decode cX2_holdOf 28 = .ok (.ireturn, 1) := by decide +kernel
theorem dX2_cleanRow_0 : decode cX2_cleanRow 0 = .ok (.iconst 0, 1) := by decide +kernel
theorem dX2_cleanRow_1 : decode cX2_cleanRow 1 = .ok (.istore_n 2, 1) := by decide +kernel
theorem dX2_cleanRow_2 : decode cX2_cleanRow 2 = .ok (.iload_n 1, 1) := by decide +kernel
theorem dX2_cleanRow_3 : decode cX2_cleanRow 3 = .ok (.bipush 12, 2) := by decide +kernel
theorem dX2_cleanRow_5 : decode cX2_cleanRow 5 = .ok (.imul, 1) := by decide +kernel
theorem dX2_cleanRow_6 : decode cX2_cleanRow 6 = .ok (.istore_n 3, 1) := by decide +kernel
theorem dX2_cleanRow_7 : decode cX2_cleanRow 7 = .ok (.iload_n 3, 1) := by decide +kernel
theorem dX2_cleanRow_8 : decode cX2_cleanRow 8 = .ok (.iload_n 1, 1) := by decide +kernel
theorem dX2_cleanRow_9 : decode cX2_cleanRow 9 = .ok (.iconst 1, 1) := by decide +kernel
theorem dX2_cleanRow_10 : decode cX2_cleanRow 10 = .ok (.iadd, 1) := by decide +kernel
theorem dX2_cleanRow_11 : decode cX2_cleanRow 11 = .ok (.bipush 12, 2) := by decide +kernel
theorem dX2_cleanRow_13 : decode cX2_cleanRow 13 = .ok (.imul, 1) := by decide +kernel
theorem dX2_cleanRow_14 : decode cX2_cleanRow 14 = .ok (.if_icmp .ge 35, 3) := by decide +kernel
theorem dX2_cleanRow_17 : decode cX2_cleanRow 17 = .ok (.aload_n 0, 1) := by decide +kernel
theorem dX2_cleanRow_18 : decode cX2_cleanRow 18 = .ok (.getfield 9, 3) := by decide +kernel
theorem dX2_cleanRow_21 : decode cX2_cleanRow 21 = .ok (.iload_n 3, 1) := by decide +kernel
theorem dX2_cleanRow_22 : decode cX2_cleanRow 22 = .ok (.iaload, 1) := by decide +kernel
theorem dX2_cleanRow_23 : decode cX2_cleanRow 23 = .ok (.ifCond .le 6, 3) := by decide +kernel
theorem dX2_cleanRow_26 : decode cX2_cleanRow 26 = .ok (.iinc 2 1, 3) := by decide +kernel
theorem dX2_cleanRow_29 : decode cX2_cleanRow 29 = .ok (.aload_n 0, 1) := by decide +kernel
theorem dX2_cleanRow_30 : decode cX2_cleanRow 30 = .ok (.getfield 9, 3) := by decide +kernel
theorem dX2_cleanRow_33 : decode cX2_cleanRow 33 = .ok (.iload_n 3, 1) := by decide +kernel
theorem dX2_cleanRow_34 : decode cX2_cleanRow 34 = .ok (.iconst 0, 1) := by decide +kernel
theorem dX2_cleanRow_35 : decode cX2_cleanRow 35 = .ok (.iastore, 1) := by decide +kernel
theorem dX2_cleanRow_36 : decode cX2_cleanRow 36 = .ok (.aload_n 0, 1) := by decide +kernel
theorem dX2_cleanRow_37 : decode cX2_cleanRow 37 = .ok (.getfield 15, 3) := by decide +kernel
theorem dX2_cleanRow_40 : decode cX2_cleanRow 40 = .ok (.iload_n 3, 1) := by decide +kernel
theorem dX2_cleanRow_41 : decode cX2_cleanRow 41 = .ok (.iconst 0, 1) := by decide +kernel
theorem dX2_cleanRow_42 : decode cX2_cleanRow 42 = .ok (.iastore, 1) := by decide +kernel
theorem dX2_cleanRow_43 : decode cX2_cleanRow 43 = .ok (.iinc 3 1, 3) := by decide +kernel
theorem dX2_cleanRow_46 : decode cX2_cleanRow 46 = .ok (.goto (-39), 3) := by decide +kernel
theorem dX2_cleanRow_49 : decode cX2_cleanRow 49 = .ok (.iload_n 2, 1) := by decide +kernel
theorem dX2_cleanRow_50 : decode cX2_cleanRow 50 = .ok (.ireturn, 1) := by decide +kernel
theorem dX2_wetColumn_0 : decode cX2_wetColumn 0 = .ok (.iconst 0, 1) := by decide +kernel
theorem dX2_wetColumn_1 : decode cX2_wetColumn 1 = .ok (.istore_n 2, 1) := by decide +kernel
theorem dX2_wetColumn_2 : decode cX2_wetColumn 2 = .ok (.iload_n 1, 1) := by decide +kernel
theorem dX2_wetColumn_3 : decode cX2_wetColumn 3 = .ok (.istore_n 3, 1) := by decide +kernel
theorem dX2_wetColumn_4 : decode cX2_wetColumn 4 = .ok (.iload_n 3, 1) := by decide +kernel
theorem dX2_wetColumn_5 : decode cX2_wetColumn 5 = .ok (.sipush 192, 3) := by decide +kernel
theorem dX2_wetColumn_8 : decode cX2_wetColumn 8 = .ok (.if_icmp .ge 31, 3) := by decide +kernel
theorem dX2_wetColumn_11 : decode cX2_wetColumn 11 = .ok (.aload_n 0, 1) := by decide +kernel
theorem dX2_wetColumn_12 : decode cX2_wetColumn 12 = .ok (.getfield 15, 3) := by decide +kernel
theorem dX2_wetColumn_15 : decode cX2_wetColumn 15 = .ok (.iload_n 3, 1) := by decide +kernel
theorem dX2_wetColumn_16 : decode cX2_wetColumn 16 = .ok (.iaload, 1) := by decide +kernel
theorem dX2_wetColumn_17 : decode cX2_wetColumn 17 = .ok (.bipush 99, 2) := by decide +kernel
theorem dX2_wetColumn_19 : decode cX2_wetColumn 19 = .ok (.if_icmp .ge 6, 3) := by decide +kernel
theorem dX2_wetColumn_22 : decode cX2_wetColumn 22 = .ok (.iinc 2 1, 3) := by decide +kernel
theorem dX2_wetColumn_25 : decode cX2_wetColumn 25 = .ok (.aload_n 0, 1) := by decide +kernel
theorem dX2_wetColumn_26 : decode cX2_wetColumn 26 = .ok (.getfield 15, 3) := by decide +kernel
theorem dX2_wetColumn_29 : decode cX2_wetColumn 29 = .ok (.iload_n 3, 1) := by decide +kernel
theorem dX2_wetColumn_30 : decode cX2_wetColumn 30 = .ok (.bipush 99, 2) := by decide +kernel
theorem dX2_wetColumn_32 : decode cX2_wetColumn 32 = .ok (.iastore, 1) := by decide +kernel
theorem dX2_wetColumn_33 : decode cX2_wetColumn 33 = .ok (.iinc 3 12, 3) := by decide +kernel
theorem dX2_wetColumn_36 : decode cX2_wetColumn 36 = .ok (.goto (-32), 3) := by decide +kernel
theorem dX2_wetColumn_39 : decode cX2_wetColumn 39 = .ok (.iload_n 2, 1) := by decide +kernel
theorem dX2_wetColumn_40 : decode cX2_wetColumn 40 = .ok (.ireturn, 1) := by decide +kernel
theorem dX2_fadeOnce_0 : decode cX2_fadeOnce 0 = .ok (.iconst 0, 1) := by decide +kernel
theorem dX2_fadeOnce_1 : decode cX2_fadeOnce 1 = .ok (.istore_n 1, 1) := by decide +kernel
theorem dX2_fadeOnce_2 : decode cX2_fadeOnce 2 = .ok (.iload_n 1, 1) := by decide +kernel
theorem dX2_fadeOnce_3 : decode cX2_fadeOnce 3 = .ok (.sipush 192, 3) := by decide +kernel
theorem dX2_fadeOnce_6 : decode cX2_fadeOnce 6 = .ok (.if_icmp .ge 30, 3) := by decide +kernel
theorem dX2_fadeOnce_9 : decode cX2_fadeOnce 9 = .ok (.aload_n 0, 1) := by decide +kernel
theorem dX2_fadeOnce_10 : decode cX2_fadeOnce 10 = .ok (.getfield 15, 3) := by decide +kernel
theorem dX2_fadeOnce_13 : decode cX2_fadeOnce 13 = .ok (.iload_n 1, 1) := by decide +kernel
theorem dX2_fadeOnce_14 : decode cX2_fadeOnce 14 = .ok (.iconst 0, 1) := by decide +kernel
theorem dX2_fadeOnce_15 : decode cX2_fadeOnce 15 = .ok (.aload_n 0, 1) := by decide +kernel
theorem dX2_fadeOnce_16 : decode cX2_fadeOnce 16 = .ok (.getfield 15, 3) := by decide +kernel
theorem dX2_fadeOnce_19 : decode cX2_fadeOnce 19 = .ok (.iload_n 1, 1) := by decide +kernel
theorem dX2_fadeOnce_20 : decode cX2_fadeOnce 20 = .ok (.iaload, 1) := by decide +kernel
theorem dX2_fadeOnce_21 : decode cX2_fadeOnce 21 = .ok (.aload_n 0, 1) := by decide +kernel
theorem dX2_fadeOnce_22 : decode cX2_fadeOnce 22 = .ok (.getfield 25, 3) := by decide +kernel
theorem dX2_fadeOnce_25 : decode cX2_fadeOnce 25 = .ok (.isub, 1) := by decide +kernel
theorem dX2_fadeOnce_26 : decode cX2_fadeOnce 26 = .ok (.invokestatic 35, 3) := by decide +kernel
theorem dX2_fadeOnce_29 : decode cX2_fadeOnce 29 = .ok (.iastore, 1) := by decide +kernel
theorem dX2_fadeOnce_30 : decode cX2_fadeOnce 30 = .ok (.iinc 1 1, 3) := by decide +kernel
theorem dX2_fadeOnce_33 : decode cX2_fadeOnce 33 = .ok (.goto (-31), 3) := by decide +kernel
theorem dX2_fadeOnce_36 : decode cX2_fadeOnce 36 = .ok (.return_, 1) := by decide +kernel
theorem dX2_goal_0 : decode cX2_goal 0 = .ok (.iload_n 2, 1) := by decide +kernel
theorem dX2_goal_1 : decode cX2_goal 1 = .ok (.invokestatic 41, 3) := by decide +kernel
theorem dX2_goal_4 : decode cX2_goal 4 = .ok (.ifCond .eq 5, 3) := by decide +kernel
theorem dX2_goal_7 : decode cX2_goal 7 = .ok (.iconst (-1), 1) := by decide +kernel
theorem dX2_goal_8 : decode cX2_goal 8 = .ok (.ireturn, 1) := by decide +kernel
theorem dX2_goal_9 : decode cX2_goal 9 = .ok (.iload_n 3, 1) := by decide +kernel
theorem dX2_goal_10 : decode cX2_goal 10 = .ok (.aload_n 0, 1) := by decide +kernel
theorem dX2_goal_11 : decode cX2_goal 11 = .ok (.getfield 18, 3) := by decide +kernel
theorem dX2_goal_14 : decode cX2_goal 14 = .ok (.iadd, 1) := by decide +kernel
theorem dX2_goal_15 : decode cX2_goal 15 = .ok (.istore 5, 2) := by decide +kernel
theorem dX2_goal_17 : decode cX2_goal 17 = .ok (.aload_n 0, 1) := by decide +kernel
theorem dX2_goal_18 : decode cX2_goal 18 = .ok (.iload_n 2, 1) := by decide +kernel
theorem dX2_goal_19 : decode cX2_goal 19 = .ok (.iload 5, 2) := by decide +kernel
theorem dX2_goal_21 : decode cX2_goal 21 = .ok (.invokevirtual 45, 3) := by decide +kernel
theorem dX2_goal_24 : decode cX2_goal 24 = .ok (.aload_n 0, 1) := by decide +kernel
theorem dX2_goal_25 : decode cX2_goal 25 = .ok (.iload_n 1, 1) := by decide +kernel
theorem dX2_goal_26 : decode cX2_goal 26 = .ok (.iload 4, 2) := by decide +kernel
theorem dX2_goal_28 : decode cX2_goal 28 = .ok (.invokevirtual 49, 3) := by decide +kernel
theorem dX2_goal_31 : decode cX2_goal 31 = .ok (.istore 6, 2) := by decide +kernel
theorem dX2_goal_33 : decode cX2_goal 33 = .ok (.iload 6, 2) := by decide +kernel
theorem dX2_goal_35 : decode cX2_goal 35 = .ok (.bipush (-2), 2) := by decide +kernel
theorem dX2_goal_37 : decode cX2_goal 37 = .ok (.if_icmp .ne 20, 3) := by decide +kernel
theorem dX2_goal_40 : decode cX2_goal 40 = .ok (.iload_n 1, 1) := by decide +kernel
theorem dX2_goal_41 : decode cX2_goal 41 = .ok (.iconst 3, 1) := by decide +kernel
theorem dX2_goal_42 : decode cX2_goal 42 = .ok (.if_icmp .ne 15, 3) := by decide +kernel
theorem dX2_goal_45 : decode cX2_goal 45 = .ok (.aload_n 0, 1) := by decide +kernel
theorem dX2_goal_46 : decode cX2_goal 46 = .ok (.iload_n 2, 1) := by decide +kernel
theorem dX2_goal_47 : decode cX2_goal 47 = .ok (.iload 5, 2) := by decide +kernel
theorem dX2_goal_49 : decode cX2_goal 49 = .ok (.invokevirtual 52, 3) := by decide +kernel
theorem dX2_goal_52 : decode cX2_goal 52 = .ok (.istore 6, 2) := by decide +kernel
theorem dX2_goal_54 : decode cX2_goal 54 = .ok (.goto 21, 3) := by decide +kernel
theorem dX2_goal_57 : decode cX2_goal 57 = .ok (.iload 6, 2) := by decide +kernel
theorem dX2_goal_59 : decode cX2_goal 59 = .ok (.bipush (-2), 2) := by decide +kernel
theorem dX2_goal_61 : decode cX2_goal 61 = .ok (.if_icmp .ne 14, 3) := by decide +kernel
theorem dX2_goal_64 : decode cX2_goal 64 = .ok (.iload_n 1, 1) := by decide +kernel
theorem dX2_goal_65 : decode cX2_goal 65 = .ok (.iconst 2, 1) := by decide +kernel
theorem dX2_goal_66 : decode cX2_goal 66 = .ok (.if_icmp .eq 9, 3) := by decide +kernel
theorem dX2_goal_69 : decode cX2_goal 69 = .ok (.aload_n 0, 1) := by decide +kernel
theorem dX2_goal_70 : decode cX2_goal 70 = .ok (.invokevirtual 55, 3) := by decide +kernel
theorem dX2_goal_73 : decode cX2_goal 73 = .ok (.istore 6, 2) := by decide +kernel
theorem dX2_goal_75 : decode cX2_goal 75 = .ok (.iload 6, 2) := by decide +kernel
theorem dX2_goal_77 : decode cX2_goal 77 = .ok (.bipush (-2), 2) := by decide +kernel
theorem dX2_goal_79 : decode cX2_goal 79 = .ok (.if_icmp .ne 7, 3) := by decide +kernel
theorem dX2_goal_82 : decode cX2_goal 82 = .ok (.iload_n 2, 1) := by decide +kernel
theorem dX2_goal_83 : decode cX2_goal 83 = .ok (.goto 5, 3) := by decide +kernel
theorem dX2_goal_86 : decode cX2_goal 86 = .ok (.iload 6, 2) := by decide +kernel
theorem dX2_goal_88 : decode cX2_goal 88 = .ok (.ireturn, 1) := by decide +kernel
theorem dX2_lookDown_0 : decode cX2_lookDown 0 = .ok (.iconst 0, 1) := by decide +kernel
theorem dX2_lookDown_1 : decode cX2_lookDown 1 = .ok (.istore_n 3, 1) := by decide +kernel
theorem dX2_lookDown_2 : decode cX2_lookDown 2 = .ok (.iload_n 3, 1) := by decide +kernel
theorem dX2_lookDown_3 : decode cX2_lookDown 3 = .ok (.iconst 3, 1) := by decide +kernel
theorem dX2_lookDown_4 : decode cX2_lookDown 4 = .ok (.if_icmp .ge 46, 3) := by decide +kernel
theorem dX2_lookDown_7 : decode cX2_lookDown 7 = .ok (.iload_n 1, 1) := by decide +kernel
theorem dX2_lookDown_8 : decode cX2_lookDown 8 = .ok (.iload_n 3, 1) := by decide +kernel
theorem dX2_lookDown_9 : decode cX2_lookDown 9 = .ok (.invokestatic 59, 3) := by decide +kernel
theorem dX2_lookDown_12 : decode cX2_lookDown 12 = .ok (.istore 4, 2) := by decide +kernel
theorem dX2_lookDown_14 : decode cX2_lookDown 14 = .ok (.aload_n 0, 1) := by decide +kernel
theorem dX2_lookDown_15 : decode cX2_lookDown 15 = .ok (.getfield 28, 3) := by decide +kernel
theorem dX2_lookDown_18 : decode cX2_lookDown 18 = .ok (.iload_n 3, 1) := by decide +kernel
theorem dX2_lookDown_19 : decode cX2_lookDown 19 = .ok (.iload 4, 2) := by decide +kernel
theorem dX2_lookDown_21 : decode cX2_lookDown 21 = .ok (.bipush (-2), 2) := by decide +kernel
theorem dX2_lookDown_23 : decode cX2_lookDown 23 = .ok (.if_icmp .eq 18, 3) := by decide +kernel
theorem dX2_lookDown_26 : decode cX2_lookDown 26 = .ok (.aload_n 0, 1) := by decide +kernel
theorem dX2_lookDown_27 : decode cX2_lookDown 27 = .ok (.iload 4, 2) := by decide +kernel
theorem dX2_lookDown_29 : decode cX2_lookDown 29 = .ok (.invokevirtual 62, 3) := by decide +kernel
theorem dX2_lookDown_32 : decode cX2_lookDown 32 = .ok (.iload_n 2, 1) := by decide +kernel
theorem dX2_lookDown_33 : decode cX2_lookDown 33 = .ok (.if_icmp .gt 8, 3) := by decide +kernel
theorem dX2_lookDown_36 : decode cX2_lookDown 36 = .ok (.iload 4, 2) := by decide +kernel
theorem dX2_lookDown_38 : decode cX2_lookDown 38 = .ok (.goto 5, 3) := by decide +kernel
theorem dX2_lookDown_41 : decode cX2_lookDown 41 = .ok (.bipush (-2), 2) := by decide +kernel
theorem dX2_lookDown_43 : decode cX2_lookDown 43 = .ok (.iastore, 1) := by decide +kernel
theorem dX2_lookDown_44 : decode cX2_lookDown 44 = .ok (.iinc 3 1, 3) := by decide +kernel
theorem dX2_lookDown_47 : decode cX2_lookDown 47 = .ok (.goto (-45), 3) := by decide +kernel
theorem dX2_lookDown_50 : decode cX2_lookDown 50 = .ok (.return_, 1) := by decide +kernel
theorem dX2_ownChoice_0 : decode cX2_ownChoice 0 = .ok (.iload_n 1, 1) := by decide +kernel
theorem dX2_ownChoice_1 : decode cX2_ownChoice 1 = .ok (.tableswitch 75 2 7 #[39, 39, 46, 52, 39, 70], 39) := by decide +kernel
theorem dX2_ownChoice_40 : decode cX2_ownChoice 40 = .ok (.aload_n 0, 1) := by decide +kernel
theorem dX2_ownChoice_41 : decode cX2_ownChoice 41 = .ok (.getfield 28, 3) := by decide +kernel
theorem dX2_ownChoice_44 : decode cX2_ownChoice 44 = .ok (.iconst 0, 1) := by decide +kernel
theorem dX2_ownChoice_45 : decode cX2_ownChoice 45 = .ok (.iaload, 1) := by decide +kernel
theorem dX2_ownChoice_46 : decode cX2_ownChoice 46 = .ok (.ireturn, 1) := by decide +kernel
theorem dX2_ownChoice_47 : decode cX2_ownChoice 47 = .ok (.aload_n 0, 1) := by decide +kernel
theorem dX2_ownChoice_48 : decode cX2_ownChoice 48 = .ok (.iload_n 2, 1) := by decide +kernel
theorem dX2_ownChoice_49 : decode cX2_ownChoice 49 = .ok (.invokevirtual 66, 3) := by decide +kernel
theorem dX2_ownChoice_52 : decode cX2_ownChoice 52 = .ok (.ireturn, 1) := by decide +kernel
theorem dX2_ownChoice_53 : decode cX2_ownChoice 53 = .ok (.iload_n 2, 1) := by decide +kernel
theorem dX2_ownChoice_54 : decode cX2_ownChoice 54 = .ok (.iconst 3, 1) := by decide +kernel
theorem dX2_ownChoice_55 : decode cX2_ownChoice 55 = .ok (.irem, 1) := by decide +kernel
theorem dX2_ownChoice_56 : decode cX2_ownChoice 56 = .ok (.iconst 2, 1) := by decide +kernel
theorem dX2_ownChoice_57 : decode cX2_ownChoice 57 = .ok (.if_icmp .ne 8, 3) := by decide +kernel
theorem dX2_ownChoice_60 : decode cX2_ownChoice 60 = .ok (.bipush (-2), 2) := by decide +kernel
theorem dX2_ownChoice_62 : decode cX2_ownChoice 62 = .ok (.goto 8, 3) := by decide +kernel
theorem dX2_ownChoice_65 : decode cX2_ownChoice 65 = .ok (.aload_n 0, 1) := by decide +kernel
theorem dX2_ownChoice_66 : decode cX2_ownChoice 66 = .ok (.iload_n 2, 1) := by decide +kernel
theorem dX2_ownChoice_67 : decode cX2_ownChoice 67 = .ok (.invokevirtual 66, 3) := by decide +kernel
theorem dX2_ownChoice_70 : decode cX2_ownChoice 70 = .ok (.ireturn, 1) := by decide +kernel
theorem dX2_ownChoice_71 : decode cX2_ownChoice 71 = .ok (.aload_n 0, 1) := by decide +kernel
theorem dX2_ownChoice_72 : decode cX2_ownChoice 72 = .ok (.invokevirtual 69, 3) := by decide +kernel
theorem dX2_ownChoice_75 : decode cX2_ownChoice 75 = .ok (.ireturn, 1) := by decide +kernel
theorem dX2_ownChoice_76 : decode cX2_ownChoice 76 = .ok (.bipush (-2), 2) := by decide +kernel
theorem dX2_ownChoice_78 : decode cX2_ownChoice 78 = .ok (.ireturn, 1) := by decide +kernel
theorem dX2_sideways_0 : decode cX2_sideways 0 = .ok (.iload_n 1, 1) := by decide +kernel
theorem dX2_sideways_1 : decode cX2_sideways 1 = .ok (.iload_n 1, 1) := by decide +kernel
theorem dX2_sideways_2 : decode cX2_sideways 2 = .ok (.invokestatic 72, 3) := by decide +kernel
theorem dX2_sideways_5 : decode cX2_sideways 5 = .ok (.iconst 2, 1) := by decide +kernel
theorem dX2_sideways_6 : decode cX2_sideways 6 = .ok (.irem, 1) := by decide +kernel
theorem dX2_sideways_7 : decode cX2_sideways 7 = .ok (.ifCond .ne 7, 3) := by decide +kernel
theorem dX2_sideways_10 : decode cX2_sideways 10 = .ok (.iconst (-1), 1) := by decide +kernel
theorem dX2_sideways_11 : decode cX2_sideways 11 = .ok (.goto 4, 3) := by decide +kernel
theorem dX2_sideways_14 : decode cX2_sideways 14 = .ok (.iconst 1, 1) := by decide +kernel
theorem dX2_sideways_15 : decode cX2_sideways 15 = .ok (.invokestatic 75, 3) := by decide +kernel
theorem dX2_sideways_18 : decode cX2_sideways 18 = .ok (.istore_n 3, 1) := by decide +kernel
theorem dX2_sideways_19 : decode cX2_sideways 19 = .ok (.iload_n 3, 1) := by decide +kernel
theorem dX2_sideways_20 : decode cX2_sideways 20 = .ok (.bipush (-2), 2) := by decide +kernel
theorem dX2_sideways_22 : decode cX2_sideways 22 = .ok (.if_icmp .eq 16, 3) := by decide +kernel
theorem dX2_sideways_25 : decode cX2_sideways 25 = .ok (.aload_n 0, 1) := by decide +kernel
theorem dX2_sideways_26 : decode cX2_sideways 26 = .ok (.iload_n 3, 1) := by decide +kernel
theorem dX2_sideways_27 : decode cX2_sideways 27 = .ok (.invokevirtual 62, 3) := by decide +kernel
theorem dX2_sideways_30 : decode cX2_sideways 30 = .ok (.iload_n 2, 1) := by decide +kernel
theorem dX2_sideways_31 : decode cX2_sideways 31 = .ok (.if_icmp .gt 7, 3) := by decide +kernel
theorem dX2_sideways_34 : decode cX2_sideways 34 = .ok (.iload_n 3, 1) := by decide +kernel
theorem dX2_sideways_35 : decode cX2_sideways 35 = .ok (.goto 5, 3) := by decide +kernel
theorem dX2_sideways_38 : decode cX2_sideways 38 = .ok (.bipush (-2), 2) := by decide +kernel
theorem dX2_sideways_40 : decode cX2_sideways 40 = .ok (.ireturn, 1) := by decide +kernel
theorem dX2_swing_0 : decode cX2_swing 0 = .ok (.iload_n 1, 1) := by decide +kernel
theorem dX2_swing_1 : decode cX2_swing 1 = .ok (.iconst 2, 1) := by decide +kernel
theorem dX2_swing_2 : decode cX2_swing 2 = .ok (.irem, 1) := by decide +kernel
theorem dX2_swing_3 : decode cX2_swing 3 = .ok (.ifCond .ne 12, 3) := by decide +kernel
theorem dX2_swing_6 : decode cX2_swing 6 = .ok (.aload_n 0, 1) := by decide +kernel
theorem dX2_swing_7 : decode cX2_swing 7 = .ok (.getfield 28, 3) := by decide +kernel
theorem dX2_swing_10 : decode cX2_swing 10 = .ok (.iconst 1, 1) := by decide +kernel
theorem dX2_swing_11 : decode cX2_swing 11 = .ok (.iaload, 1) := by decide +kernel
theorem dX2_swing_12 : decode cX2_swing 12 = .ok (.goto 9, 3) := by decide +kernel
theorem dX2_swing_15 : decode cX2_swing 15 = .ok (.aload_n 0, 1) := by decide +kernel
theorem dX2_swing_16 : decode cX2_swing 16 = .ok (.getfield 28, 3) := by decide +kernel
theorem dX2_swing_19 : decode cX2_swing 19 = .ok (.iconst 2, 1) := by decide +kernel
theorem dX2_swing_20 : decode cX2_swing 20 = .ok (.iaload, 1) := by decide +kernel
theorem dX2_swing_21 : decode cX2_swing 21 = .ok (.ireturn, 1) := by decide +kernel
theorem dX2_softest_0 : decode cX2_softest 0 = .ok (.bipush (-2), 2) := by decide +kernel
theorem dX2_softest_2 : decode cX2_softest 2 = .ok (.istore_n 1, 1) := by decide +kernel
theorem dX2_softest_3 : decode cX2_softest 3 = .ok (.iconst 0, 1) := by decide +kernel
theorem dX2_softest_4 : decode cX2_softest 4 = .ok (.istore_n 2, 1) := by decide +kernel
theorem dX2_softest_5 : decode cX2_softest 5 = .ok (.aload_n 0, 1) := by decide +kernel
theorem dX2_softest_6 : decode cX2_softest 6 = .ok (.getfield 28, 3) := by decide +kernel
theorem dX2_softest_9 : decode cX2_softest 9 = .ok (.astore_n 3, 1) := by decide +kernel
theorem dX2_softest_10 : decode cX2_softest 10 = .ok (.aload_n 3, 1) := by decide +kernel
theorem dX2_softest_11 : decode cX2_softest 11 = .ok (.arraylength, 1) := by decide +kernel
theorem dX2_softest_12 : decode cX2_softest 12 = .ok (.istore 4, 2) := by decide +kernel
theorem dX2_softest_14 : decode cX2_softest 14 = .ok (.iconst 0, 1) := by decide +kernel
theorem dX2_softest_15 : decode cX2_softest 15 = .ok (.istore 5, 2) := by decide +kernel
theorem dX2_softest_17 : decode cX2_softest 17 = .ok (.iload 5, 2) := by decide +kernel
theorem dX2_softest_19 : decode cX2_softest 19 = .ok (.iload 4, 2) := by decide +kernel
theorem dX2_softest_21 : decode cX2_softest 21 = .ok (.if_icmp .ge 48, 3) := by decide +kernel
theorem dX2_softest_24 : decode cX2_softest 24 = .ok (.aload_n 3, 1) := by decide +kernel
theorem dX2_softest_25 : decode cX2_softest 25 = .ok (.iload 5, 2) := by decide +kernel
theorem dX2_softest_27 : decode cX2_softest 27 = .ok (.iaload, 1) := by decide +kernel
theorem dX2_softest_28 : decode cX2_softest 28 = .ok (.istore 6, 2) := by decide +kernel
theorem dX2_softest_30 : decode cX2_softest 30 = .ok (.iload 6, 2) := by decide +kernel
theorem dX2_softest_32 : decode cX2_softest 32 = .ok (.bipush (-2), 2) := by decide +kernel
theorem dX2_softest_34 : decode cX2_softest 34 = .ok (.if_icmp .eq 29, 3) := by decide +kernel
theorem dX2_softest_37 : decode cX2_softest 37 = .ok (.iload_n 1, 1) := by decide +kernel
theorem dX2_softest_38 : decode cX2_softest 38 = .ok (.bipush (-2), 2) := by decide +kernel
theorem dX2_softest_40 : decode cX2_softest 40 = .ok (.if_icmp .eq 13, 3) := by decide +kernel
theorem dX2_softest_43 : decode cX2_softest 43 = .ok (.aload_n 0, 1) := by decide +kernel
theorem dX2_softest_44 : decode cX2_softest 44 = .ok (.iload 6, 2) := by decide +kernel
theorem dX2_softest_46 : decode cX2_softest 46 = .ok (.invokevirtual 62, 3) := by decide +kernel
theorem dX2_softest_49 : decode cX2_softest 49 = .ok (.iload_n 2, 1) := by decide +kernel
theorem dX2_softest_50 : decode cX2_softest 50 = .ok (.if_icmp .ge 13, 3) := by decide +kernel
theorem dX2_softest_53 : decode cX2_softest 53 = .ok (.iload 6, 2) := by decide +kernel
theorem dX2_softest_55 : decode cX2_softest 55 = .ok (.istore_n 1, 1) := by decide +kernel
theorem dX2_softest_56 : decode cX2_softest 56 = .ok (.aload_n 0, 1) := by decide +kernel
theorem dX2_softest_57 : decode cX2_softest 57 = .ok (.iload 6, 2) := by decide +kernel
theorem dX2_softest_59 : decode cX2_softest 59 = .ok (.invokevirtual 62, 3) := by decide +kernel
theorem dX2_softest_62 : decode cX2_softest 62 = .ok (.istore_n 2, 1) := by decide +kernel
theorem dX2_softest_63 : decode cX2_softest 63 = .ok (.iinc 5 1, 3) := by decide +kernel
theorem dX2_softest_66 : decode cX2_softest 66 = .ok (.goto (-49), 3) := by decide +kernel
theorem dX2_softest_69 : decode cX2_softest 69 = .ok (.iload_n 1, 1) := by decide +kernel
theorem dX2_softest_70 : decode cX2_softest 70 = .ok (.ireturn, 1) := by decide +kernel
theorem dX2_wettest_0 : decode cX2_wettest 0 = .ok (.bipush (-2), 2) := by decide +kernel
theorem dX2_wettest_2 : decode cX2_wettest 2 = .ok (.istore_n 1, 1) := by decide +kernel
theorem dX2_wettest_3 : decode cX2_wettest 3 = .ok (.iconst 0, 1) := by decide +kernel
theorem dX2_wettest_4 : decode cX2_wettest 4 = .ok (.istore_n 2, 1) := by decide +kernel
theorem dX2_wettest_5 : decode cX2_wettest 5 = .ok (.aload_n 0, 1) := by decide +kernel
theorem dX2_wettest_6 : decode cX2_wettest 6 = .ok (.getfield 28, 3) := by decide +kernel
theorem dX2_wettest_9 : decode cX2_wettest 9 = .ok (.astore_n 3, 1) := by decide +kernel
theorem dX2_wettest_10 : decode cX2_wettest 10 = .ok (.aload_n 3, 1) := by decide +kernel
theorem dX2_wettest_11 : decode cX2_wettest 11 = .ok (.arraylength, 1) := by decide +kernel
theorem dX2_wettest_12 : decode cX2_wettest 12 = .ok (.istore 4, 2) := by decide +kernel
theorem dX2_wettest_14 : decode cX2_wettest 14 = .ok (.iconst 0, 1) := by decide +kernel
theorem dX2_wettest_15 : decode cX2_wettest 15 = .ok (.istore 5, 2) := by decide +kernel
theorem dX2_wettest_17 : decode cX2_wettest 17 = .ok (.iload 5, 2) := by decide +kernel
theorem dX2_wettest_19 : decode cX2_wettest 19 = .ok (.iload 4, 2) := by decide +kernel
theorem dX2_wettest_21 : decode cX2_wettest 21 = .ok (.if_icmp .ge 44, 3) := by decide +kernel
theorem dX2_wettest_24 : decode cX2_wettest 24 = .ok (.aload_n 3, 1) := by decide +kernel
theorem dX2_wettest_25 : decode cX2_wettest 25 = .ok (.iload 5, 2) := by decide +kernel
theorem dX2_wettest_27 : decode cX2_wettest 27 = .ok (.iaload, 1) := by decide +kernel
theorem dX2_wettest_28 : decode cX2_wettest 28 = .ok (.istore 6, 2) := by decide +kernel
theorem dX2_wettest_30 : decode cX2_wettest 30 = .ok (.iload 6, 2) := by decide +kernel
theorem dX2_wettest_32 : decode cX2_wettest 32 = .ok (.bipush (-2), 2) := by decide +kernel
theorem dX2_wettest_34 : decode cX2_wettest 34 = .ok (.if_icmp .eq 25, 3) := by decide +kernel
theorem dX2_wettest_37 : decode cX2_wettest 37 = .ok (.aload_n 0, 1) := by decide +kernel
theorem dX2_wettest_38 : decode cX2_wettest 38 = .ok (.getfield 15, 3) := by decide +kernel
theorem dX2_wettest_41 : decode cX2_wettest 41 = .ok (.iload 6, 2) := by decide +kernel
theorem dX2_wettest_43 : decode cX2_wettest 43 = .ok (.iaload, 1) := by decide +kernel
theorem dX2_wettest_44 : decode cX2_wettest 44 = .ok (.iload_n 2, 1) := by decide +kernel
theorem dX2_wettest_45 : decode cX2_wettest 45 = .ok (.if_icmp .le 14, 3) := by decide +kernel
theorem dX2_wettest_48 : decode cX2_wettest 48 = .ok (.iload 6, 2) := by decide +kernel
theorem dX2_wettest_50 : decode cX2_wettest 50 = .ok (.istore_n 1, 1) := by decide +kernel
theorem dX2_wettest_51 : decode cX2_wettest 51 = .ok (.aload_n 0, 1) := by decide +kernel
theorem dX2_wettest_52 : decode cX2_wettest 52 = .ok (.getfield 15, 3) := by decide +kernel
theorem dX2_wettest_55 : decode cX2_wettest 55 = .ok (.iload 6, 2) := by decide +kernel
theorem dX2_wettest_57 : decode cX2_wettest 57 = .ok (.iaload, 1) := by decide +kernel
theorem dX2_wettest_58 : decode cX2_wettest 58 = .ok (.istore_n 2, 1) := by decide +kernel
theorem dX2_wettest_59 : decode cX2_wettest 59 = .ok (.iinc 5 1, 3) := by decide +kernel
theorem dX2_wettest_62 : decode cX2_wettest 62 = .ok (.goto (-45), 3) := by decide +kernel
theorem dX2_wettest_65 : decode cX2_wettest 65 = .ok (.iload_n 1, 1) := by decide +kernel
theorem dX2_wettest_66 : decode cX2_wettest 66 = .ok (.ireturn, 1) := by decide +kernel
theorem dX3_init_0 : decode cX3_init 0 = .ok (.aload_n 0, 1) := by decide +kernel
theorem dX3_init_1 : decode cX3_init 1 = .ok (.invokespecial 3, 3) := by decide +kernel
theorem dX3_init_4 : decode cX3_init 4 = .ok (.aload_n 0, 1) := by decide +kernel
theorem dX3_init_5 : decode cX3_init 5 = .ok (.iconst 0, 1) := by decide +kernel
theorem dX3_init_6 : decode cX3_init 6 = .ok (.putfield 9, 3) := by decide +kernel
theorem dX3_init_9 : decode cX3_init 9 = .ok (.aload_n 0, 1) := by decide +kernel
theorem dX3_init_10 : decode cX3_init 10 = .ok (.bipush 6, 2) := by decide +kernel
theorem dX3_init_12 : decode cX3_init 12 = .ok (.newarray .int, 2) := by decide +kernel
theorem dX3_init_14 : decode cX3_init 14 = .ok (.putfield 15, 3) := by decide +kernel
theorem dX3_init_17 : decode cX3_init 17 = .ok (.aload_n 0, 1) := by decide +kernel
theorem dX3_init_18 : decode cX3_init 18 = .ok (.bipush 72, 2) := by decide +kernel
theorem dX3_init_20 : decode cX3_init 20 = .ok (.newarray .int, 2) := by decide +kernel
theorem dX3_init_22 : decode cX3_init 22 = .ok (.putfield 19, 3) := by decide +kernel
theorem dX3_init_25 : decode cX3_init 25 = .ok (.aload_n 0, 1) := by decide +kernel
theorem dX3_init_26 : decode cX3_init 26 = .ok (.bipush 72, 2) := by decide +kernel
theorem dX3_init_28 : decode cX3_init 28 = .ok (.newarray .int, 2) := by decide +kernel
theorem dX3_init_30 : decode cX3_init 30 = .ok (.putfield 22, 3) := by decide +kernel
theorem dX3_init_33 : decode cX3_init 33 = .ok (.aload_n 0, 1) := by decide +kernel
theorem dX3_init_34 : decode cX3_init 34 = .ok (.bipush 72, 2) := by decide +kernel
theorem dX3_init_36 : decode cX3_init 36 = .ok (.newarray .int, 2) := by decide +kernel
theorem dX3_init_38 : decode cX3_init 38 = .ok (.putfield 25, 3) := by decide +kernel
theorem dX3_init_41 : decode cX3_init 41 = .ok (.return_, 1) := by decide +kernel
theorem dX3_become_0 : decode cX3_become 0 = .ok (.aload_n 0, 1) := by decide +kernel
theorem dX3_become_1 : decode cX3_become 1 = .ok (.aload_n 1, 1) := by decide +kernel
theorem dX3_become_2 : decode cX3_become 2 = .ok (.getfield 9, 3) := by decide +kernel
theorem dX3_become_5 : decode cX3_become 5 = .ok (.putfield 9, 3) := by decide +kernel
theorem dX3_become_8 : decode cX3_become 8 = .ok (.aload_n 1, 1) := by decide +kernel
theorem dX3_become_9 : decode cX3_become 9 = .ok (.getfield 15, 3) := by decide +kernel
theorem dX3_become_12 : decode cX3_become 12 = .ok (.aload_n 0, 1) := by decide +kernel
theorem dX3_become_13 : decode cX3_become 13 = .ok (.getfield 15, 3) := by decide +kernel
theorem dX3_become_16 : decode cX3_become 16 = .ok (.invokestatic 28, 3) := by decide +kernel
theorem dX3_become_19 : decode cX3_become 19 = .ok (.aload_n 1, 1) := by decide +kernel
theorem dX3_become_20 : decode cX3_become 20 = .ok (.getfield 19, 3) := by decide +kernel
theorem dX3_become_23 : decode cX3_become 23 = .ok (.aload_n 0, 1) := by decide +kernel
theorem dX3_become_24 : decode cX3_become 24 = .ok (.getfield 19, 3) := by decide +kernel
theorem dX3_become_27 : decode cX3_become 27 = .ok (.invokestatic 28, 3) := by decide +kernel
theorem dX3_become_30 : decode cX3_become 30 = .ok (.aload_n 1, 1) := by decide +kernel
theorem dX3_become_31 : decode cX3_become 31 = .ok (.getfield 22, 3) := by decide +kernel
theorem dX3_become_34 : decode cX3_become 34 = .ok (.aload_n 0, 1) := by decide +kernel
theorem dX3_become_35 : decode cX3_become 35 = .ok (.getfield 22, 3) := by decide +kernel
theorem dX3_become_38 : decode cX3_become 38 = .ok (.invokestatic 28, 3) := by decide +kernel
theorem dX3_become_41 : decode cX3_become 41 = .ok (.aload_n 1, 1) := by decide +kernel
theorem dX3_become_42 : decode cX3_become 42 = .ok (.getfield 25, 3) := by decide +kernel
theorem dX3_become_45 : decode cX3_become 45 = .ok (.aload_n 0, 1) := by decide +kernel
theorem dX3_become_46 : decode cX3_become 46 = .ok (.getfield 25, 3) := by decide +kernel
theorem dX3_become_49 : decode cX3_become 49 = .ok (.invokestatic 28, 3) := by decide +kernel
theorem dX3_become_52 : decode cX3_become 52 = .ok (.return_, 1) := by decide +kernel
theorem dX3_put_0 : decode cX3_put 0 = .ok (.aload_n 0, 1) := by decide +kernel
theorem dX3_put_1 : decode cX3_put 1 = .ok (.getfield 19, 3) := by decide +kernel
theorem dX3_put_4 : decode cX3_put 4 = .ok (.iload_n 1, 1) := by decide +kernel
theorem dX3_put_5 : decode cX3_put 5 = .ok (.iload_n 2, 1) := by decide +kernel
theorem dX3_put_6 : decode cX3_put 6 = .ok (.iastore, 1) := by decide +kernel
theorem dX3_put_7 : decode cX3_put 7 = .ok (.aload_n 0, 1) := by decide +kernel
theorem dX3_put_8 : decode cX3_put 8 = .ok (.getfield 22, 3) := by decide +kernel
theorem dX3_put_11 : decode cX3_put 11 = .ok (.iload_n 1, 1) := by decide +kernel
theorem dX3_put_12 : decode cX3_put 12 = .ok (.iload_n 3, 1) := by decide +kernel
theorem dX3_put_13 : decode cX3_put 13 = .ok (.iastore, 1) := by decide +kernel
theorem dX3_put_14 : decode cX3_put 14 = .ok (.aload_n 0, 1) := by decide +kernel
theorem dX3_put_15 : decode cX3_put 15 = .ok (.getfield 25, 3) := by decide +kernel
theorem dX3_put_18 : decode cX3_put 18 = .ok (.iload_n 1, 1) := by decide +kernel
theorem dX3_put_19 : decode cX3_put 19 = .ok (.iload 4, 2) := by decide +kernel
theorem dX3_put_21 : decode cX3_put 21 = .ok (.iastore, 1) := by decide +kernel
theorem dX3_put_22 : decode cX3_put 22 = .ok (.return_, 1) := by decide +kernel
theorem dX3_ticksOf_0 : decode cX3_ticksOf 0 = .ok (.iconst 0, 1) := by decide +kernel
theorem dX3_ticksOf_1 : decode cX3_ticksOf 1 = .ok (.istore_n 2, 1) := by decide +kernel
theorem dX3_ticksOf_2 : decode cX3_ticksOf 2 = .ok (.iconst 0, 1) := by decide +kernel
theorem dX3_ticksOf_3 : decode cX3_ticksOf 3 = .ok (.istore_n 3, 1) := by decide +kernel
theorem dX3_ticksOf_4 : decode cX3_ticksOf 4 = .ok (.iload_n 3, 1) := by decide +kernel
theorem dX3_ticksOf_5 : decode cX3_ticksOf 5 = .ok (.aload_n 0, 1) := by decide +kernel
theorem dX3_ticksOf_6 : decode cX3_ticksOf 6 = .ok (.getfield 15, 3) := by decide +kernel
theorem dX3_ticksOf_9 : decode cX3_ticksOf 9 = .ok (.iload_n 1, 1) := by decide +kernel
theorem dX3_ticksOf_10 : decode cX3_ticksOf 10 = .ok (.iaload, 1) := by decide +kernel
theorem dX3_ticksOf_11 : decode cX3_ticksOf 11 = .ok (.if_icmp .ge 39, 3) := by decide +kernel
theorem dX3_ticksOf_14 : decode cX3_ticksOf 14 = .ok (.iload_n 1, 1) := by decide +kernel
theorem dX3_ticksOf_15 : decode cX3_ticksOf 15 = .ok (.bipush 12, 2) := by decide +kernel
theorem dX3_ticksOf_17 : decode cX3_ticksOf 17 = .ok (.imul, 1) := by decide +kernel
theorem dX3_ticksOf_18 : decode cX3_ticksOf 18 = .ok (.iload_n 3, 1) := by decide +kernel
theorem dX3_ticksOf_19 : decode cX3_ticksOf 19 = .ok (.iadd, 1) := by decide +kernel
theorem dX3_ticksOf_20 : decode cX3_ticksOf 20 = .ok (.istore 4, 2) := by decide +kernel
theorem dX3_ticksOf_22 : decode cX3_ticksOf 22 = .ok (.aload_n 0, 1) := by decide +kernel
theorem dX3_ticksOf_23 : decode cX3_ticksOf 23 = .ok (.getfield 19, 3) := by decide +kernel
theorem dX3_ticksOf_26 : decode cX3_ticksOf 26 = .ok (.iload 4, 2) := by decide +kernel
theorem dX3_ticksOf_28 : decode cX3_ticksOf 28 = .ok (.iaload, 1) := by decide +kernel
theorem dX3_ticksOf_29 : decode cX3_ticksOf 29 = .ok (.bipush 8, 2) := by decide +kernel
theorem dX3_ticksOf_31 : decode cX3_ticksOf 31 = .ok (.if_icmp .ne 13, 3) := by decide +kernel
theorem dX3_ticksOf_34 : decode cX3_ticksOf 34 = .ok (.iload_n 2, 1) := by decide +kernel
theorem dX3_ticksOf_35 : decode cX3_ticksOf 35 = .ok (.aload_n 0, 1) := by decide +kernel
theorem dX3_ticksOf_36 : decode cX3_ticksOf 36 = .ok (.getfield 22, 3) := by decide +kernel
theorem dX3_ticksOf_39 : decode cX3_ticksOf 39 = .ok (.iload 4, 2) := by decide +kernel
theorem dX3_ticksOf_41 : decode cX3_ticksOf 41 = .ok (.iaload, 1) := by decide +kernel
theorem dX3_ticksOf_42 : decode cX3_ticksOf 42 = .ok (.iadd, 1) := by decide +kernel
theorem dX3_ticksOf_43 : decode cX3_ticksOf 43 = .ok (.istore_n 2, 1) := by decide +kernel
theorem dX3_ticksOf_44 : decode cX3_ticksOf 44 = .ok (.iinc 3 1, 3) := by decide +kernel
theorem dX3_ticksOf_47 : decode cX3_ticksOf 47 = .ok (.goto (-43), 3) := by decide +kernel
theorem dX3_ticksOf_50 : decode cX3_ticksOf 50 = .ok (.iload_n 2, 1) := by decide +kernel
theorem dX3_ticksOf_51 : decode cX3_ticksOf 51 = .ok (.ireturn, 1) := by decide +kernel
theorem dX4_init_0 : decode cX4_init 0 = .ok (.aload_n 0, 1) := by decide +kernel
theorem dX4_init_1 : decode cX4_init 1 = .ok (.invokespecial 3, 3) := by decide +kernel
theorem dX4_init_4 : decode cX4_init 4 = .ok (.aload_n 0, 1) := by decide +kernel
theorem dX4_init_5 : decode cX4_init 5 = .ok (.aload_n 1, 1) := by decide +kernel
theorem dX4_init_6 : decode cX4_init 6 = .ok (.putfield 9, 3) := by decide +kernel
theorem dX4_init_9 : decode cX4_init 9 = .ok (.return_, 1) := by decide +kernel
theorem dX4_readText_0 : decode cX4_readText 0 = .ok (.aload_n 0, 1) := by decide +kernel
theorem dX4_readText_1 : decode cX4_readText 1 = .ok (.iconst 0, 1) := by decide +kernel
theorem dX4_readText_2 : decode cX4_readText 2 = .ok (.putfield 15, 3) := by decide +kernel
theorem dX4_readText_5 : decode cX4_readText 5 = .ok (.aload_n 0, 1) := by decide +kernel
theorem dX4_readText_6 : decode cX4_readText 6 = .ok (.invokevirtual 19, 3) := by decide +kernel
theorem dX4_readText_9 : decode cX4_readText 9 = .ok (.aload_n 1, 1) := by decide +kernel
theorem dX4_readText_10 : decode cX4_readText 10 = .ok (.getfield 22, 3) := by decide +kernel
theorem dX4_readText_13 : decode cX4_readText 13 = .ok (.bipush 12, 2) := by decide +kernel
theorem dX4_readText_15 : decode cX4_readText 15 = .ok (.imul, 1) := by decide +kernel
theorem dX4_readText_16 : decode cX4_readText 16 = .ok (.istore_n 2, 1) := by decide +kernel
theorem dX4_readText_17 : decode cX4_readText 17 = .ok (.iconst 0, 1) := by decide +kernel
theorem dX4_readText_18 : decode cX4_readText 18 = .ok (.istore_n 3, 1) := by decide +kernel
theorem dX4_readText_19 : decode cX4_readText 19 = .ok (.iload_n 3, 1) := by decide +kernel
theorem dX4_readText_20 : decode cX4_readText 20 = .ok (.bipush 12, 2) := by decide +kernel
theorem dX4_readText_22 : decode cX4_readText 22 = .ok (.if_icmp .ge 76, 3) := by decide +kernel
theorem dX4_readText_25 : decode cX4_readText 25 = .ok (.aload_n 0, 1) := by decide +kernel
theorem dX4_readText_26 : decode cX4_readText 26 = .ok (.aload_n 1, 1) := by decide +kernel
theorem dX4_readText_27 : decode cX4_readText 27 = .ok (.iload_n 2, 1) := by decide +kernel
theorem dX4_readText_28 : decode cX4_readText 28 = .ok (.iload_n 3, 1) := by decide +kernel
theorem dX4_readText_29 : decode cX4_readText 29 = .ok (.iadd, 1) := by decide +kernel
theorem dX4_readText_30 : decode cX4_readText 30 = .ok (.invokevirtual 27, 3) := by decide +kernel
theorem dX4_readText_33 : decode cX4_readText 33 = .ok (.istore 4, 2) := by decide +kernel
theorem dX4_readText_35 : decode cX4_readText 35 = .ok (.iload 4, 2) := by decide +kernel
theorem dX4_readText_37 : decode cX4_readText 37 = .ok (.iconst (-1), 1) := by decide +kernel
theorem dX4_readText_38 : decode cX4_readText 38 = .ok (.if_icmp .eq 6, 3) := by decide +kernel
theorem dX4_readText_41 : decode cX4_readText 41 = .ok (.iload 4, 2) := by decide +kernel
theorem dX4_readText_43 : decode cX4_readText 43 = .ok (.ireturn, 1) := by decide +kernel
theorem dX4_readText_44 : decode cX4_readText 44 = .ok (.aload_n 0, 1) := by decide +kernel
theorem dX4_readText_45 : decode cX4_readText 45 = .ok (.getfield 31, 3) := by decide +kernel
theorem dX4_readText_48 : decode cX4_readText 48 = .ok (.ifCond .ne 27, 3) := by decide +kernel
theorem dX4_readText_51 : decode cX4_readText 51 = .ok (.aload_n 1, 1) := by decide +kernel
theorem dX4_readText_52 : decode cX4_readText 52 = .ok (.getfield 34, 3) := by decide +kernel
theorem dX4_readText_55 : decode cX4_readText 55 = .ok (.aload_n 1, 1) := by decide +kernel
theorem dX4_readText_56 : decode cX4_readText 56 = .ok (.getfield 22, 3) := by decide +kernel
theorem dX4_readText_59 : decode cX4_readText 59 = .ok (.iload_n 3, 1) := by decide +kernel
theorem dX4_readText_60 : decode cX4_readText 60 = .ok (.iconst 1, 1) := by decide +kernel
theorem dX4_readText_61 : decode cX4_readText 61 = .ok (.iadd, 1) := by decide +kernel
theorem dX4_readText_62 : decode cX4_readText 62 = .ok (.iastore, 1) := by decide +kernel
theorem dX4_readText_63 : decode cX4_readText 63 = .ok (.aload_n 1, 1) := by decide +kernel
theorem dX4_readText_64 : decode cX4_readText 64 = .ok (.dup, 1) := by decide +kernel
theorem dX4_readText_65 : decode cX4_readText 65 = .ok (.getfield 22, 3) := by decide +kernel
theorem dX4_readText_68 : decode cX4_readText 68 = .ok (.iconst 1, 1) := by decide +kernel
theorem dX4_readText_69 : decode cX4_readText 69 = .ok (.iadd, 1) := by decide +kernel
theorem dX4_readText_70 : decode cX4_readText 70 = .ok (.putfield 22, 3) := by decide +kernel
theorem dX4_readText_73 : decode cX4_readText 73 = .ok (.iconst (-1), 1) := by decide +kernel
theorem dX4_readText_74 : decode cX4_readText 74 = .ok (.ireturn, 1) := by decide +kernel
theorem dX4_readText_75 : decode cX4_readText 75 = .ok (.aload_n 0, 1) := by decide +kernel
theorem dX4_readText_76 : decode cX4_readText 76 = .ok (.getfield 31, 3) := by decide +kernel
theorem dX4_readText_79 : decode cX4_readText 79 = .ok (.iconst 3, 1) := by decide +kernel
theorem dX4_readText_80 : decode cX4_readText 80 = .ok (.if_icmp .eq 8, 3) := by decide +kernel
theorem dX4_readText_83 : decode cX4_readText 83 = .ok (.aload_n 0, 1) := by decide +kernel
theorem dX4_readText_84 : decode cX4_readText 84 = .ok (.getfield 38, 3) := by decide +kernel
theorem dX4_readText_87 : decode cX4_readText 87 = .ok (.ireturn, 1) := by decide +kernel
theorem dX4_readText_88 : decode cX4_readText 88 = .ok (.aload_n 0, 1) := by decide +kernel
theorem dX4_readText_89 : decode cX4_readText 89 = .ok (.invokevirtual 19, 3) := by decide +kernel
theorem dX4_readText_92 : decode cX4_readText 92 = .ok (.iinc 3 1, 3) := by decide +kernel
theorem dX4_readText_95 : decode cX4_readText 95 = .ok (.goto (-76), 3) := by decide +kernel
theorem dX4_readText_98 : decode cX4_readText 98 = .ok (.aload_n 0, 1) := by decide +kernel
theorem dX4_readText_99 : decode cX4_readText 99 = .ok (.getfield 38, 3) := by decide +kernel
theorem dX4_readText_102 : decode cX4_readText 102 = .ok (.ireturn, 1) := by decide +kernel
theorem dX4_readDeed_0 : decode cX4_readDeed 0 = .ok (.aload_n 0, 1) := by decide +kernel
theorem dX4_readDeed_1 : decode cX4_readDeed 1 = .ok (.getfield 31, 3) := by decide +kernel
theorem dX4_readDeed_4 : decode cX4_readDeed 4 = .ok (.iconst 1, 1) := by decide +kernel
theorem dX4_readDeed_5 : decode cX4_readDeed 5 = .ok (.if_icmp .ne 10, 3) := by decide +kernel
theorem dX4_readDeed_8 : decode cX4_readDeed 8 = .ok (.aload_n 0, 1) := by decide +kernel
theorem dX4_readDeed_9 : decode cX4_readDeed 9 = .ok (.invokevirtual 41, 3) := by decide +kernel
theorem dX4_readDeed_12 : decode cX4_readDeed 12 = .ok (.goto 4, 3) := by decide +kernel
theorem dX4_readDeed_15 : decode cX4_readDeed 15 = .ok (.iconst (-1), 1) := by decide +kernel
theorem dX4_readDeed_16 : decode cX4_readDeed 16 = .ok (.istore_n 3, 1) := by decide +kernel
theorem dX4_readDeed_17 : decode cX4_readDeed 17 = .ok (.iload_n 3, 1) := by decide +kernel
theorem dX4_readDeed_18 : decode cX4_readDeed 18 = .ok (.iconst (-1), 1) := by decide +kernel
theorem dX4_readDeed_19 : decode cX4_readDeed 19 = .ok (.if_icmp .ne 8, 3) := by decide +kernel
theorem dX4_readDeed_22 : decode cX4_readDeed 22 = .ok (.aload_n 0, 1) := by decide +kernel
theorem dX4_readDeed_23 : decode cX4_readDeed 23 = .ok (.getfield 38, 3) := by decide +kernel
theorem dX4_readDeed_26 : decode cX4_readDeed 26 = .ok (.ireturn, 1) := by decide +kernel
theorem dX4_readDeed_27 : decode cX4_readDeed 27 = .ok (.aload_n 0, 1) := by decide +kernel
theorem dX4_readDeed_28 : decode cX4_readDeed 28 = .ok (.invokevirtual 19, 3) := by decide +kernel
theorem dX4_readDeed_31 : decode cX4_readDeed 31 = .ok (.iload_n 3, 1) := by decide +kernel
theorem dX4_readDeed_32 : decode cX4_readDeed 32 = .ok (.bipush 11, 2) := by decide +kernel
theorem dX4_readDeed_34 : decode cX4_readDeed 34 = .ok (.if_icmp .ne 15, 3) := by decide +kernel
theorem dX4_readDeed_37 : decode cX4_readDeed 37 = .ok (.aload_n 0, 1) := by decide +kernel
theorem dX4_readDeed_38 : decode cX4_readDeed 38 = .ok (.getfield 31, 3) := by decide +kernel
theorem dX4_readDeed_41 : decode cX4_readDeed 41 = .ok (.iconst 4, 1) := by decide +kernel
theorem dX4_readDeed_42 : decode cX4_readDeed 42 = .ok (.if_icmp .ne 7, 3) := by decide +kernel
theorem dX4_readDeed_45 : decode cX4_readDeed 45 = .ok (.iconst 1, 1) := by decide +kernel
theorem dX4_readDeed_46 : decode cX4_readDeed 46 = .ok (.goto 4, 3) := by decide +kernel
theorem dX4_readDeed_49 : decode cX4_readDeed 49 = .ok (.iconst 0, 1) := by decide +kernel
theorem dX4_readDeed_50 : decode cX4_readDeed 50 = .ok (.istore 4, 2) := by decide +kernel
theorem dX4_readDeed_52 : decode cX4_readDeed 52 = .ok (.iload 4, 2) := by decide +kernel
theorem dX4_readDeed_54 : decode cX4_readDeed 54 = .ok (.ifCond .eq 7, 3) := by decide +kernel
theorem dX4_readDeed_57 : decode cX4_readDeed 57 = .ok (.aload_n 0, 1) := by decide +kernel
theorem dX4_readDeed_58 : decode cX4_readDeed 58 = .ok (.invokevirtual 19, 3) := by decide +kernel
theorem dX4_readDeed_61 : decode cX4_readDeed 61 = .ok (.aload_n 0, 1) := by decide +kernel
theorem dX4_readDeed_62 : decode cX4_readDeed 62 = .ok (.getstatic 45, 3) := by decide +kernel
theorem dX4_readDeed_65 : decode cX4_readDeed 65 = .ok (.iload_n 3, 1) := by decide +kernel
theorem dX4_readDeed_66 : decode cX4_readDeed 66 = .ok (.iaload, 1) := by decide +kernel
theorem dX4_readDeed_67 : decode cX4_readDeed 67 = .ok (.getstatic 48, 3) := by decide +kernel
theorem dX4_readDeed_70 : decode cX4_readDeed 70 = .ok (.iload_n 3, 1) := by decide +kernel
theorem dX4_readDeed_71 : decode cX4_readDeed 71 = .ok (.iaload, 1) := by decide +kernel
theorem dX4_readDeed_72 : decode cX4_readDeed 72 = .ok (.invokevirtual 51, 3) := by decide +kernel
theorem dX4_readDeed_75 : decode cX4_readDeed 75 = .ok (.ifCond .ne 8, 3) := by decide +kernel
theorem dX4_readDeed_78 : decode cX4_readDeed 78 = .ok (.aload_n 0, 1) := by decide +kernel
theorem dX4_readDeed_79 : decode cX4_readDeed 79 = .ok (.getfield 38, 3) := by decide +kernel
theorem dX4_readDeed_82 : decode cX4_readDeed 82 = .ok (.ireturn, 1) := by decide +kernel
theorem dX4_readDeed_83 : decode cX4_readDeed 83 = .ok (.iload 4, 2) := by decide +kernel
theorem dX4_readDeed_85 : decode cX4_readDeed 85 = .ok (.ifCond .eq 11, 3) := by decide +kernel
theorem dX4_readDeed_88 : decode cX4_readDeed 88 = .ok (.aload_n 0, 1) := by decide +kernel
theorem dX4_readDeed_89 : decode cX4_readDeed 89 = .ok (.getfield 55, 3) := by decide +kernel
theorem dX4_readDeed_92 : decode cX4_readDeed 92 = .ok (.ineg, 1) := by decide +kernel
theorem dX4_readDeed_93 : decode cX4_readDeed 93 = .ok (.goto 7, 3) := by decide +kernel
theorem dX4_readDeed_96 : decode cX4_readDeed 96 = .ok (.aload_n 0, 1) := by decide +kernel
theorem dX4_readDeed_97 : decode cX4_readDeed 97 = .ok (.getfield 55, 3) := by decide +kernel
theorem dX4_readDeed_100 : decode cX4_readDeed 100 = .ok (.istore 5, 2) := by decide +kernel
theorem dX4_readDeed_102 : decode cX4_readDeed 102 = .ok (.aload_n 0, 1) := by decide +kernel
theorem dX4_readDeed_103 : decode cX4_readDeed 103 = .ok (.invokevirtual 19, 3) := by decide +kernel
theorem dX4_readDeed_106 : decode cX4_readDeed 106 = .ok (.iconst 0, 1) := by decide +kernel
theorem dX4_readDeed_107 : decode cX4_readDeed 107 = .ok (.istore 6, 2) := by decide +kernel
theorem dX4_readDeed_109 : decode cX4_readDeed 109 = .ok (.iload_n 3, 1) := by decide +kernel
theorem dX4_readDeed_110 : decode cX4_readDeed 110 = .ok (.invokestatic 58, 3) := by decide +kernel
theorem dX4_readDeed_113 : decode cX4_readDeed 113 = .ok (.ifCond .eq 54, 3) := by decide +kernel
theorem dX4_readDeed_116 : decode cX4_readDeed 116 = .ok (.aload_n 0, 1) := by decide +kernel
theorem dX4_readDeed_117 : decode cX4_readDeed 117 = .ok (.getfield 31, 3) := by decide +kernel
theorem dX4_readDeed_120 : decode cX4_readDeed 120 = .ok (.iconst 1, 1) := by decide +kernel
theorem dX4_readDeed_121 : decode cX4_readDeed 121 = .ok (.if_icmp .ne 12, 3) := by decide +kernel
theorem dX4_readDeed_124 : decode cX4_readDeed 124 = .ok (.aload_n 0, 1) := by decide +kernel
theorem dX4_readDeed_125 : decode cX4_readDeed 125 = .ok (.ldc 62, 2) := by decide +kernel
theorem dX4_readDeed_127 : decode cX4_readDeed 127 = .ok (.invokevirtual 64, 3) := by decide +kernel
theorem dX4_readDeed_130 : decode cX4_readDeed 130 = .ok (.ifCond .ne 8, 3) := by decide +kernel
theorem dX4_readDeed_133 : decode cX4_readDeed 133 = .ok (.aload_n 0, 1) := by decide +kernel
theorem dX4_readDeed_134 : decode cX4_readDeed 134 = .ok (.getfield 38, 3) := by decide +kernel
theorem dX4_readDeed_137 : decode cX4_readDeed 137 = .ok (.ireturn, 1) := by decide +kernel
theorem dX4_readDeed_138 : decode cX4_readDeed 138 = .ok (.aload_n 0, 1) := by decide +kernel
theorem dX4_readDeed_139 : decode cX4_readDeed 139 = .ok (.invokevirtual 19, 3) := by decide +kernel
theorem dX4_readDeed_142 : decode cX4_readDeed 142 = .ok (.aload_n 0, 1) := by decide +kernel
theorem dX4_readDeed_143 : decode cX4_readDeed 143 = .ok (.iconst 0, 1) := by decide +kernel
theorem dX4_readDeed_144 : decode cX4_readDeed 144 = .ok (.bipush 11, 2) := by decide +kernel
theorem dX4_readDeed_146 : decode cX4_readDeed 146 = .ok (.invokevirtual 51, 3) := by decide +kernel
theorem dX4_readDeed_149 : decode cX4_readDeed 149 = .ok (.ifCond .ne 8, 3) := by decide +kernel
theorem dX4_readDeed_152 : decode cX4_readDeed 152 = .ok (.aload_n 0, 1) := by decide +kernel
theorem dX4_readDeed_153 : decode cX4_readDeed 153 = .ok (.getfield 38, 3) := by decide +kernel
theorem dX4_readDeed_156 : decode cX4_readDeed 156 = .ok (.ireturn, 1) := by decide +kernel
theorem dX4_readDeed_157 : decode cX4_readDeed 157 = .ok (.aload_n 0, 1) := by decide +kernel
theorem dX4_readDeed_158 : decode cX4_readDeed 158 = .ok (.getfield 55, 3) := by decide +kernel
theorem dX4_readDeed_161 : decode cX4_readDeed 161 = .ok (.istore 6, 2) := by decide +kernel
theorem dX4_readDeed_163 : decode cX4_readDeed 163 = .ok (.aload_n 0, 1) := by decide +kernel
theorem dX4_readDeed_164 : decode cX4_readDeed 164 = .ok (.invokevirtual 19, 3) := by decide +kernel
theorem dX4_readDeed_167 : decode cX4_readDeed 167 = .ok (.aload_n 1, 1) := by decide +kernel
theorem dX4_readDeed_168 : decode cX4_readDeed 168 = .ok (.iload_n 2, 1) := by decide +kernel
theorem dX4_readDeed_169 : decode cX4_readDeed 169 = .ok (.iload_n 3, 1) := by decide +kernel
theorem dX4_readDeed_170 : decode cX4_readDeed 170 = .ok (.iload 5, 2) := by decide +kernel
theorem dX4_readDeed_172 : decode cX4_readDeed 172 = .ok (.iload 6, 2) := by decide +kernel
theorem dX4_readDeed_174 : decode cX4_readDeed 174 = .ok (.invokevirtual 68, 3) := by decide +kernel
theorem dX4_readDeed_177 : decode cX4_readDeed 177 = .ok (.iconst (-1), 1) := by decide +kernel
theorem dX4_readDeed_178 : decode cX4_readDeed 178 = .ok (.ireturn, 1) := by decide +kernel
theorem dX4_isNumber_0 : decode cX4_isNumber 0 = .ok (.aload_n 0, 1) := by decide +kernel
theorem dX4_isNumber_1 : decode cX4_isNumber 1 = .ok (.getfield 31, 3) := by decide +kernel
theorem dX4_isNumber_4 : decode cX4_isNumber 4 = .ok (.iconst 2, 1) := by decide +kernel
theorem dX4_isNumber_5 : decode cX4_isNumber 5 = .ok (.if_icmp .ne 19, 3) := by decide +kernel
theorem dX4_isNumber_8 : decode cX4_isNumber 8 = .ok (.aload_n 0, 1) := by decide +kernel
theorem dX4_isNumber_9 : decode cX4_isNumber 9 = .ok (.getfield 55, 3) := by decide +kernel
theorem dX4_isNumber_12 : decode cX4_isNumber 12 = .ok (.iload_n 1, 1) := by decide +kernel
theorem dX4_isNumber_13 : decode cX4_isNumber 13 = .ok (.iload_n 2, 1) := by decide +kernel
theorem dX4_isNumber_14 : decode cX4_isNumber 14 = .ok (.invokestatic 72, 3) := by decide +kernel
theorem dX4_isNumber_17 : decode cX4_isNumber 17 = .ok (.ifCond .eq 7, 3) := by decide +kernel
theorem dX4_isNumber_20 : decode cX4_isNumber 20 = .ok (.iconst 1, 1) := by decide +kernel
theorem dX4_isNumber_21 : decode cX4_isNumber 21 = .ok (.goto 4, 3) := by decide +kernel
theorem dX4_isNumber_24 : decode cX4_isNumber 24 = .ok (.iconst 0, 1) := by decide +kernel
theorem dX4_isNumber_25 : decode cX4_isNumber 25 = .ok (.ireturn, 1) := by decide +kernel
theorem dX4_deedOfToken_0 : decode cX4_deedOfToken 0 = .ok (.iconst 0, 1) := by decide +kernel
theorem dX4_deedOfToken_1 : decode cX4_deedOfToken 1 = .ok (.istore_n 1, 1) := by decide +kernel
theorem dX4_deedOfToken_2 : decode cX4_deedOfToken 2 = .ok (.iload_n 1, 1) := by decide +kernel
theorem dX4_deedOfToken_3 : decode cX4_deedOfToken 3 = .ok (.bipush 13, 2) := by decide +kernel
theorem dX4_deedOfToken_5 : decode cX4_deedOfToken 5 = .ok (.if_icmp .ge 22, 3) := by decide +kernel
theorem dX4_deedOfToken_8 : decode cX4_deedOfToken 8 = .ok (.aload_n 0, 1) := by decide +kernel
theorem dX4_deedOfToken_9 : decode cX4_deedOfToken 9 = .ok (.iload_n 1, 1) := by decide +kernel
theorem dX4_deedOfToken_10 : decode cX4_deedOfToken 10 = .ok (.invokestatic 76, 3) := by decide +kernel
theorem dX4_deedOfToken_13 : decode cX4_deedOfToken 13 = .ok (.invokevirtual 64, 3) := by decide +kernel
theorem dX4_deedOfToken_16 : decode cX4_deedOfToken 16 = .ok (.ifCond .eq 5, 3) := by decide +kernel
theorem dX4_deedOfToken_19 : decode cX4_deedOfToken 19 = .ok (.iload_n 1, 1) := by decide +kernel
theorem dX4_deedOfToken_20 : decode cX4_deedOfToken 20 = .ok (.ireturn, 1) := by decide +kernel
theorem dX4_deedOfToken_21 : decode cX4_deedOfToken 21 = .ok (.iinc 1 1, 3) := by decide +kernel
theorem dX4_deedOfToken_24 : decode cX4_deedOfToken 24 = .ok (.goto (-22), 3) := by decide +kernel
theorem dX4_deedOfToken_27 : decode cX4_deedOfToken 27 = .ok (.iconst (-1), 1) := by decide +kernel
theorem dX4_deedOfToken_28 : decode cX4_deedOfToken 28 = .ok (.ireturn, 1) := by decide +kernel
theorem dX4_isToken_0 : decode cX4_isToken 0 = .ok (.aload_n 0, 1) := by decide +kernel
theorem dX4_isToken_1 : decode cX4_isToken 1 = .ok (.getfield 15, 3) := by decide +kernel
theorem dX4_isToken_4 : decode cX4_isToken 4 = .ok (.aload_n 0, 1) := by decide +kernel
theorem dX4_isToken_5 : decode cX4_isToken 5 = .ok (.getfield 38, 3) := by decide +kernel
theorem dX4_isToken_8 : decode cX4_isToken 8 = .ok (.isub, 1) := by decide +kernel
theorem dX4_isToken_9 : decode cX4_isToken 9 = .ok (.aload_n 1, 1) := by decide +kernel
theorem dX4_isToken_10 : decode cX4_isToken 10 = .ok (.invokevirtual 80, 3) := by decide +kernel
theorem dX4_isToken_13 : decode cX4_isToken 13 = .ok (.if_icmp .eq 5, 3) := by decide +kernel
theorem dX4_isToken_16 : decode cX4_isToken 16 = .ok (.iconst 0, 1) := by decide +kernel
theorem dX4_isToken_17 : decode cX4_isToken 17 = .ok (.ireturn, 1) := by decide +kernel
theorem dX4_isToken_18 : decode cX4_isToken 18 = .ok (.iconst 0, 1) := by decide +kernel
theorem dX4_isToken_19 : decode cX4_isToken 19 = .ok (.istore_n 2, 1) := by decide +kernel
theorem dX4_isToken_20 : decode cX4_isToken 20 = .ok (.iload_n 2, 1) := by decide +kernel
theorem dX4_isToken_21 : decode cX4_isToken 21 = .ok (.aload_n 1, 1) := by decide +kernel
theorem dX4_isToken_22 : decode cX4_isToken 22 = .ok (.invokevirtual 80, 3) := by decide +kernel
theorem dX4_isToken_25 : decode cX4_isToken 25 = .ok (.if_icmp .ge 33, 3) := by decide +kernel
theorem dX4_isToken_28 : decode cX4_isToken 28 = .ok (.aload_n 0, 1) := by decide +kernel
theorem dX4_isToken_29 : decode cX4_isToken 29 = .ok (.getfield 9, 3) := by decide +kernel
theorem dX4_isToken_32 : decode cX4_isToken 32 = .ok (.getfield 85, 3) := by decide +kernel
theorem dX4_isToken_35 : decode cX4_isToken 35 = .ok (.aload_n 0, 1) := by decide +kernel
theorem dX4_isToken_36 : decode cX4_isToken 36 = .ok (.getfield 38, 3) := by decide +kernel
theorem dX4_isToken_39 : decode cX4_isToken 39 = .ok (.iload_n 2, 1) := by decide +kernel
theorem dX4_isToken_40 : decode cX4_isToken 40 = .ok (.iadd, 1) := by decide +kernel
theorem dX4_isToken_41 : decode cX4_isToken 41 = .ok (.iaload, 1) := by decide +kernel
theorem dX4_isToken_42 : decode cX4_isToken 42 = .ok (.aload_n 1, 1) := by decide +kernel
theorem dX4_isToken_43 : decode cX4_isToken 43 = .ok (.iload_n 2, 1) := by decide +kernel
theorem dX4_isToken_44 : decode cX4_isToken 44 = .ok (.invokevirtual 90, 3) := by decide +kernel
theorem dX4_isToken_47 : decode cX4_isToken 47 = .ok (.if_icmp .eq 5, 3) := by decide +kernel
theorem dX4_isToken_50 : decode cX4_isToken 50 = .ok (.iconst 0, 1) := by decide +kernel
theorem dX4_isToken_51 : decode cX4_isToken 51 = .ok (.ireturn, 1) := by decide +kernel
theorem dX4_isToken_52 : decode cX4_isToken 52 = .ok (.iinc 2 1, 3) := by decide +kernel
theorem dX4_isToken_55 : decode cX4_isToken 55 = .ok (.goto (-35), 3) := by decide +kernel
theorem dX4_isToken_58 : decode cX4_isToken 58 = .ok (.iconst 1, 1) := by decide +kernel
theorem dX4_isToken_59 : decode cX4_isToken 59 = .ok (.ireturn, 1) := by decide +kernel
theorem dX4_wordOf_0 : decode cX4_wordOf 0 = .ok (.iload_n 0, 1) := by decide +kernel
theorem dX4_wordOf_1 : decode cX4_wordOf 1 = .ok (.tableswitch 99 0 11 #[63, 66, 69, 72, 75, 78, 81, 84, 87, 90, 93, 96], 63) := by decide +kernel
theorem dX4_wordOf_64 : decode cX4_wordOf 64 = .ok (.ldc 94, 2) := by decide +kernel
theorem dX4_wordOf_66 : decode cX4_wordOf 66 = .ok (.areturn, 1) := by decide +kernel
theorem dX4_wordOf_67 : decode cX4_wordOf 67 = .ok (.ldc 96, 2) := by decide +kernel
theorem dX4_wordOf_69 : decode cX4_wordOf 69 = .ok (.areturn, 1) := by decide +kernel
theorem dX4_wordOf_70 : decode cX4_wordOf 70 = .ok (.ldc 98, 2) := by decide +kernel
theorem dX4_wordOf_72 : decode cX4_wordOf 72 = .ok (.areturn, 1) := by decide +kernel
theorem dX4_wordOf_73 : decode cX4_wordOf 73 = .ok (.ldc 100, 2) := by decide +kernel
theorem dX4_wordOf_75 : decode cX4_wordOf 75 = .ok (.areturn, 1) := by decide +kernel
theorem dX4_wordOf_76 : decode cX4_wordOf 76 = .ok (.ldc 102, 2) := by decide +kernel
theorem dX4_wordOf_78 : decode cX4_wordOf 78 = .ok (.areturn, 1) := by decide +kernel
theorem dX4_wordOf_79 : decode cX4_wordOf 79 = .ok (.ldc 104, 2) := by decide +kernel
theorem dX4_wordOf_81 : decode cX4_wordOf 81 = .ok (.areturn, 1) := by decide +kernel
theorem dX4_wordOf_82 : decode cX4_wordOf 82 = .ok (.ldc 106, 2) := by decide +kernel
theorem dX4_wordOf_84 : decode cX4_wordOf 84 = .ok (.areturn, 1) := by decide +kernel
theorem dX4_wordOf_85 : decode cX4_wordOf 85 = .ok (.ldc 108, 2) := by decide +kernel
theorem dX4_wordOf_87 : decode cX4_wordOf 87 = .ok (.areturn, 1) := by decide +kernel
theorem dX4_wordOf_88 : decode cX4_wordOf 88 = .ok (.ldc 110, 2) := by decide +kernel
theorem dX4_wordOf_90 : decode cX4_wordOf 90 = .ok (.areturn, 1) := by decide +kernel
theorem dX4_wordOf_91 : decode cX4_wordOf 91 = .ok (.ldc 112, 2) := by decide +kernel
theorem dX4_wordOf_93 : decode cX4_wordOf 93 = .ok (.areturn, 1) := by decide +kernel
theorem dX4_wordOf_94 : decode cX4_wordOf 94 = .ok (.ldc 114, 2) := by decide +kernel
theorem dX4_wordOf_96 : decode cX4_wordOf 96 = .ok (.areturn, 1) := by decide +kernel
theorem dX4_wordOf_97 : decode cX4_wordOf 97 = .ok (.ldc 116, 2) := by decide +kernel
theorem dX4_wordOf_99 : decode cX4_wordOf 99 = .ok (.areturn, 1) := by decide +kernel
theorem dX4_wordOf_100 : decode cX4_wordOf 100 = .ok (.ldc 118, 2) := by decide +kernel
theorem dX4_wordOf_102 : decode cX4_wordOf 102 = .ok (.areturn, 1) := by decide +kernel
theorem dX4_readToken_0 : decode cX4_readToken 0 = .ok (.aload_n 0, 1) := by decide +kernel
theorem dX4_readToken_1 : decode cX4_readToken 1 = .ok (.aload_n 0, 1) := by decide +kernel
theorem dX4_readToken_2 : decode cX4_readToken 2 = .ok (.getfield 15, 3) := by decide +kernel
theorem dX4_readToken_5 : decode cX4_readToken 5 = .ok (.putfield 38, 3) := by decide +kernel
theorem dX4_readToken_8 : decode cX4_readToken 8 = .ok (.aload_n 0, 1) := by decide +kernel
theorem dX4_readToken_9 : decode cX4_readToken 9 = .ok (.getfield 38, 3) := by decide +kernel
theorem dX4_readToken_12 : decode cX4_readToken 12 = .ok (.aload_n 0, 1) := by decide +kernel
theorem dX4_readToken_13 : decode cX4_readToken 13 = .ok (.getfield 9, 3) := by decide +kernel
theorem dX4_readToken_16 : decode cX4_readToken 16 = .ok (.getfield 120, 3) := by decide +kernel
theorem dX4_readToken_19 : decode cX4_readToken 19 = .ok (.if_icmp .ge 33, 3) := by decide +kernel
theorem dX4_readToken_22 : decode cX4_readToken 22 = .ok (.aload_n 0, 1) := by decide +kernel
theorem dX4_readToken_23 : decode cX4_readToken 23 = .ok (.getfield 9, 3) := by decide +kernel
theorem dX4_readToken_26 : decode cX4_readToken 26 = .ok (.getfield 85, 3) := by decide +kernel
theorem dX4_readToken_29 : decode cX4_readToken 29 = .ok (.aload_n 0, 1) := by decide +kernel
theorem dX4_readToken_30 : decode cX4_readToken 30 = .ok (.getfield 38, 3) := by decide +kernel
theorem dX4_readToken_33 : decode cX4_readToken 33 = .ok (.iaload, 1) := by decide +kernel
theorem dX4_readToken_34 : decode cX4_readToken 34 = .ok (.bipush 32, 2) := by decide +kernel
theorem dX4_readToken_36 : decode cX4_readToken 36 = .ok (.if_icmp .ne 16, 3) := by decide +kernel
theorem dX4_readToken_39 : decode cX4_readToken 39 = .ok (.aload_n 0, 1) := by decide +kernel
theorem dX4_readToken_40 : decode cX4_readToken 40 = .ok (.dup, 1) := by decide +kernel
theorem dX4_readToken_41 : decode cX4_readToken 41 = .ok (.getfield 38, 3) := by decide +kernel
theorem dX4_readToken_44 : decode cX4_readToken 44 = .ok (.iconst 1, 1) := by decide +kernel
theorem dX4_readToken_45 : decode cX4_readToken 45 = .ok (.iadd, 1) := by decide +kernel
theorem dX4_readToken_46 : decode cX4_readToken 46 = .ok (.putfield 38, 3) := by decide +kernel
theorem dX4_readToken_49 : decode cX4_readToken 49 = .ok (.goto (-41), 3) := by decide +kernel
theorem dX4_readToken_52 : decode cX4_readToken 52 = .ok (.aload_n 0, 1) := by decide +kernel
theorem dX4_readToken_53 : decode cX4_readToken 53 = .ok (.aload_n 0, 1) := by decide +kernel
theorem dX4_readToken_54 : decode cX4_readToken 54 = .ok (.getfield 38, 3) := by decide +kernel
theorem dX4_readToken_57 : decode cX4_readToken 57 = .ok (.putfield 15, 3) := by decide +kernel
theorem dX4_readToken_60 : decode cX4_readToken 60 = .ok (.aload_n 0, 1) := by decide +kernel
theorem dX4_readToken_61 : decode cX4_readToken 61 = .ok (.aload_n 0, 1) := by decide +kernel
theorem dX4_readToken_62 : decode cX4_readToken 62 = .ok (.aload_n 0, 1) := by decide +kernel
theorem dX4_readToken_63 : decode cX4_readToken 63 = .ok (.getfield 38, 3) := by decide +kernel
theorem dX4_readToken_66 : decode cX4_readToken 66 = .ok (.invokevirtual 122, 3) := by decide +kernel
theorem dX4_readToken_69 : decode cX4_readToken 69 = .ok (.putfield 31, 3) := by decide +kernel
theorem dX4_readToken_72 : decode cX4_readToken 72 = .ok (.aload_n 0, 1) := by decide +kernel
theorem dX4_readToken_73 : decode cX4_readToken 73 = .ok (.getfield 31, 3) := by decide +kernel
theorem dX4_readToken_76 : decode cX4_readToken 76 = .ok (.iconst 1, 1) := by decide +kernel
theorem dX4_readToken_77 : decode cX4_readToken 77 = .ok (.if_icmp .ne 42, 3) := by decide +kernel
theorem dX4_readToken_80 : decode cX4_readToken 80 = .ok (.aload_n 0, 1) := by decide +kernel
theorem dX4_readToken_81 : decode cX4_readToken 81 = .ok (.getfield 15, 3) := by decide +kernel
theorem dX4_readToken_84 : decode cX4_readToken 84 = .ok (.aload_n 0, 1) := by decide +kernel
theorem dX4_readToken_85 : decode cX4_readToken 85 = .ok (.getfield 9, 3) := by decide +kernel
theorem dX4_readToken_88 : decode cX4_readToken 88 = .ok (.getfield 120, 3) := by decide +kernel
theorem dX4_readToken_91 : decode cX4_readToken 91 = .ok (.if_icmp .ge 60, 3) := by decide +kernel
theorem dX4_readToken_94 : decode cX4_readToken 94 = .ok (.aload_n 0, 1) := by decide +kernel
theorem dX4_readToken_95 : decode cX4_readToken 95 = .ok (.aload_n 0, 1) := by decide +kernel
theorem dX4_readToken_96 : decode cX4_readToken 96 = .ok (.getfield 15, 3) := by decide +kernel
theorem dX4_readToken_99 : decode cX4_readToken 99 = .ok (.invokevirtual 122, 3) := by decide +kernel
theorem dX4_readToken_102 : decode cX4_readToken 102 = .ok (.iconst 1, 1) := by decide +kernel
theorem dX4_readToken_103 : decode cX4_readToken 103 = .ok (.if_icmp .ne 48, 3) := by decide +kernel
theorem dX4_readToken_106 : decode cX4_readToken 106 = .ok (.aload_n 0, 1) := by decide +kernel
theorem dX4_readToken_107 : decode cX4_readToken 107 = .ok (.dup, 1) := by decide +kernel
theorem dX4_readToken_108 : decode cX4_readToken 108 = .ok (.getfield 15, 3) := by decide +kernel
theorem dX4_readToken_111 : decode cX4_readToken 111 = .ok (.iconst 1, 1) := by decide +kernel
theorem dX4_readToken_112 : decode cX4_readToken 112 = .ok (.iadd, 1) := by decide +kernel
theorem dX4_readToken_113 : decode cX4_readToken 113 = .ok (.putfield 15, 3) := by decide +kernel
theorem dX4_readToken_116 : decode cX4_readToken 116 = .ok (.goto (-36), 3) := by decide +kernel
theorem dX4_readToken_119 : decode cX4_readToken 119 = .ok (.aload_n 0, 1) := by decide +kernel
theorem dX4_readToken_120 : decode cX4_readToken 120 = .ok (.getfield 31, 3) := by decide +kernel
theorem dX4_readToken_123 : decode cX4_readToken 123 = .ok (.iconst 2, 1) := by decide +kernel
theorem dX4_readToken_124 : decode cX4_readToken 124 = .ok (.if_icmp .ne 10, 3) := by decide +kernel
theorem dX4_readToken_127 : decode cX4_readToken 127 = .ok (.aload_n 0, 1) := by decide +kernel
theorem dX4_readToken_128 : decode cX4_readToken 128 = .ok (.invokevirtual 126, 3) := by decide +kernel
theorem dX4_readToken_131 : decode cX4_readToken 131 = .ok (.goto 20, 3) := by decide +kernel
theorem dX4_readToken_134 : decode cX4_readToken 134 = .ok (.aload_n 0, 1) := by decide +kernel
theorem dX4_readToken_135 : decode cX4_readToken 135 = .ok (.getfield 31, 3) := by decide +kernel
theorem dX4_readToken_138 : decode cX4_readToken 138 = .ok (.ifCond .eq 13, 3) := by decide +kernel
theorem dX4_readToken_141 : decode cX4_readToken 141 = .ok (.aload_n 0, 1) := by decide +kernel
theorem dX4_readToken_142 : decode cX4_readToken 142 = .ok (.dup, 1) := by decide +kernel
theorem dX4_readToken_143 : decode cX4_readToken 143 = .ok (.getfield 15, 3) := by decide +kernel
theorem dX4_readToken_146 : decode cX4_readToken 146 = .ok (.iconst 1, 1) := by decide +kernel
theorem dX4_readToken_147 : decode cX4_readToken 147 = .ok (.iadd, 1) := by decide +kernel
theorem dX4_readToken_148 : decode cX4_readToken 148 = .ok (.putfield 15, 3) := by decide +kernel
theorem dX4_readToken_151 : decode cX4_readToken 151 = .ok (.return_, 1) := by decide +kernel
theorem dX4_readNumber_0 : decode cX4_readNumber 0 = .ok (.aload_n 0, 1) := by decide +kernel
theorem dX4_readNumber_1 : decode cX4_readNumber 1 = .ok (.iconst 0, 1) := by decide +kernel
theorem dX4_readNumber_2 : decode cX4_readNumber 2 = .ok (.putfield 55, 3) := by decide +kernel
theorem dX4_readNumber_5 : decode cX4_readNumber 5 = .ok (.aload_n 0, 1) := by decide +kernel
theorem dX4_readNumber_6 : decode cX4_readNumber 6 = .ok (.getfield 15, 3) := by decide +kernel
theorem dX4_readNumber_9 : decode cX4_readNumber 9 = .ok (.aload_n 0, 1) := by decide +kernel
theorem dX4_readNumber_10 : decode cX4_readNumber 10 = .ok (.getfield 9, 3) := by decide +kernel
theorem dX4_readNumber_13 : decode cX4_readNumber 13 = .ok (.getfield 120, 3) := by decide +kernel
theorem dX4_readNumber_16 : decode cX4_readNumber 16 = .ok (.if_icmp .ge 61, 3) := by decide +kernel
theorem dX4_readNumber_19 : decode cX4_readNumber 19 = .ok (.aload_n 0, 1) := by decide +kernel
theorem dX4_readNumber_20 : decode cX4_readNumber 20 = .ok (.aload_n 0, 1) := by decide +kernel
theorem dX4_readNumber_21 : decode cX4_readNumber 21 = .ok (.getfield 15, 3) := by decide +kernel
theorem dX4_readNumber_24 : decode cX4_readNumber 24 = .ok (.invokevirtual 122, 3) := by decide +kernel
theorem dX4_readNumber_27 : decode cX4_readNumber 27 = .ok (.iconst 2, 1) := by decide +kernel
theorem dX4_readNumber_28 : decode cX4_readNumber 28 = .ok (.if_icmp .ne 49, 3) := by decide +kernel
theorem dX4_readNumber_31 : decode cX4_readNumber 31 = .ok (.aload_n 0, 1) := by decide +kernel
theorem dX4_readNumber_32 : decode cX4_readNumber 32 = .ok (.sipush 1000, 3) := by decide +kernel
theorem dX4_readNumber_35 : decode cX4_readNumber 35 = .ok (.aload_n 0, 1) := by decide +kernel
theorem dX4_readNumber_36 : decode cX4_readNumber 36 = .ok (.getfield 55, 3) := by decide +kernel
theorem dX4_readNumber_39 : decode cX4_readNumber 39 = .ok (.bipush 10, 2) := by decide +kernel
theorem dX4_readNumber_41 : decode cX4_readNumber 41 = .ok (.imul, 1) := by decide +kernel
theorem dX4_readNumber_42 : decode cX4_readNumber 42 = .ok (.aload_n 0, 1) := by decide +kernel
theorem dX4_readNumber_43 : decode cX4_readNumber 43 = .ok (.getfield 9, 3) := by decide +kernel
theorem dX4_readNumber_46 : decode cX4_readNumber 46 = .ok (.getfield 85, 3) := by decide +kernel
theorem dX4_readNumber_49 : decode cX4_readNumber 49 = .ok (.aload_n 0, 1) := by decide +kernel
theorem dX4_readNumber_50 : decode cX4_readNumber 50 = .ok (.getfield 15, 3) := by decide +kernel
theorem dX4_readNumber_53 : decode cX4_readNumber 53 = .ok (.iaload, 1) := by decide +kernel
theorem dX4_readNumber_54 : decode cX4_readNumber 54 = .ok (.iadd, 1) := by decide +kernel
theorem dX4_readNumber_55 : decode cX4_readNumber 55 = .ok (.bipush 48, 2) := by decide +kernel
theorem dX4_readNumber_57 : decode cX4_readNumber 57 = .ok (.isub, 1) := by decide +kernel
theorem dX4_readNumber_58 : decode cX4_readNumber 58 = .ok (.invokestatic 129, 3) := by decide +kernel
theorem dX4_readNumber_61 : decode cX4_readNumber 61 = .ok (.putfield 55, 3) := by decide +kernel
theorem dX4_readNumber_64 : decode cX4_readNumber 64 = .ok (.aload_n 0, 1) := by decide +kernel
theorem dX4_readNumber_65 : decode cX4_readNumber 65 = .ok (.dup, 1) := by decide +kernel
theorem dX4_readNumber_66 : decode cX4_readNumber 66 = .ok (.getfield 15, 3) := by decide +kernel
theorem dX4_readNumber_69 : decode cX4_readNumber 69 = .ok (.iconst 1, 1) := by decide +kernel
theorem dX4_readNumber_70 : decode cX4_readNumber 70 = .ok (.iadd, 1) := by decide +kernel
theorem dX4_readNumber_71 : decode cX4_readNumber 71 = .ok (.putfield 15, 3) := by decide +kernel
theorem dX4_readNumber_74 : decode cX4_readNumber 74 = .ok (.goto (-69), 3) := by decide +kernel
theorem dX4_readNumber_77 : decode cX4_readNumber 77 = .ok (.return_, 1) := by decide +kernel
theorem dX4_typeAt_0 : decode cX4_typeAt 0 = .ok (.iload_n 1, 1) := by decide +kernel
theorem dX4_typeAt_1 : decode cX4_typeAt 1 = .ok (.aload_n 0, 1) := by decide +kernel
theorem dX4_typeAt_2 : decode cX4_typeAt 2 = .ok (.getfield 9, 3) := by decide +kernel
theorem dX4_typeAt_5 : decode cX4_typeAt 5 = .ok (.getfield 120, 3) := by decide +kernel
theorem dX4_typeAt_8 : decode cX4_typeAt 8 = .ok (.if_icmp .lt 5, 3) := by decide +kernel
theorem dX4_typeAt_11 : decode cX4_typeAt 11 = .ok (.iconst 0, 1) := by decide +kernel
theorem dX4_typeAt_12 : decode cX4_typeAt 12 = .ok (.ireturn, 1) := by decide +kernel
theorem dX4_typeAt_13 : decode cX4_typeAt 13 = .ok (.aload_n 0, 1) := by decide +kernel
theorem dX4_typeAt_14 : decode cX4_typeAt 14 = .ok (.getfield 9, 3) := by decide +kernel
theorem dX4_typeAt_17 : decode cX4_typeAt 17 = .ok (.getfield 85, 3) := by decide +kernel
theorem dX4_typeAt_20 : decode cX4_typeAt 20 = .ok (.iload_n 1, 1) := by decide +kernel
theorem dX4_typeAt_21 : decode cX4_typeAt 21 = .ok (.iaload, 1) := by decide +kernel
theorem dX4_typeAt_22 : decode cX4_typeAt 22 = .ok (.istore_n 2, 1) := by decide +kernel
theorem dX4_typeAt_23 : decode cX4_typeAt 23 = .ok (.iload_n 2, 1) := by decide +kernel
theorem dX4_typeAt_24 : decode cX4_typeAt 24 = .ok (.bipush 97, 2) := by decide +kernel
theorem dX4_typeAt_26 : decode cX4_typeAt 26 = .ok (.bipush 122, 2) := by decide +kernel
theorem dX4_typeAt_28 : decode cX4_typeAt 28 = .ok (.invokestatic 72, 3) := by decide +kernel
theorem dX4_typeAt_31 : decode cX4_typeAt 31 = .ok (.ifCond .eq 5, 3) := by decide +kernel
theorem dX4_typeAt_34 : decode cX4_typeAt 34 = .ok (.iconst 1, 1) := by decide +kernel
theorem dX4_typeAt_35 : decode cX4_typeAt 35 = .ok (.ireturn, 1) := by decide +kernel
theorem dX4_typeAt_36 : decode cX4_typeAt 36 = .ok (.iload_n 2, 1) := by decide +kernel
theorem dX4_typeAt_37 : decode cX4_typeAt 37 = .ok (.bipush 48, 2) := by decide +kernel
theorem dX4_typeAt_39 : decode cX4_typeAt 39 = .ok (.bipush 57, 2) := by decide +kernel
theorem dX4_typeAt_41 : decode cX4_typeAt 41 = .ok (.invokestatic 72, 3) := by decide +kernel
theorem dX4_typeAt_44 : decode cX4_typeAt 44 = .ok (.ifCond .eq 5, 3) := by decide +kernel
theorem dX4_typeAt_47 : decode cX4_typeAt 47 = .ok (.iconst 2, 1) := by decide +kernel
theorem dX4_typeAt_48 : decode cX4_typeAt 48 = .ok (.ireturn, 1) := by decide +kernel
theorem dX4_typeAt_49 : decode cX4_typeAt 49 = .ok (.iload_n 2, 1) := by decide +kernel
theorem dX4_typeAt_50 : decode cX4_typeAt 50 = .ok (.bipush 59, 2) := by decide +kernel
theorem dX4_typeAt_52 : decode cX4_typeAt 52 = .ok (.if_icmp .ne 5, 3) := by decide +kernel
theorem dX4_typeAt_55 : decode cX4_typeAt 55 = .ok (.iconst 3, 1) := by decide +kernel
theorem dX4_typeAt_56 : decode cX4_typeAt 56 = .ok (.ireturn, 1) := by decide +kernel
theorem dX4_typeAt_57 : decode cX4_typeAt 57 = .ok (.iload_n 2, 1) := by decide +kernel
theorem dX4_typeAt_58 : decode cX4_typeAt 58 = .ok (.bipush 45, 2) := by decide +kernel
theorem dX4_typeAt_60 : decode cX4_typeAt 60 = .ok (.if_icmp .ne 7, 3) := by decide +kernel
theorem dX4_typeAt_63 : decode cX4_typeAt 63 = .ok (.iconst 4, 1) := by decide +kernel
theorem dX4_typeAt_64 : decode cX4_typeAt 64 = .ok (.goto 4, 3) := by decide +kernel
theorem dX4_typeAt_67 : decode cX4_typeAt 67 = .ok (.iconst 5, 1) := by decide +kernel
theorem dX4_typeAt_68 : decode cX4_typeAt 68 = .ok (.ireturn, 1) := by decide +kernel
theorem dX5_init_0 : decode cX5_init 0 = .ok (.aload_n 0, 1) := by decide +kernel
theorem dX5_init_1 : decode cX5_init 1 = .ok (.invokespecial 3, 3) := by decide +kernel
theorem dX5_init_4 : decode cX5_init 4 = .ok (.aload_n 0, 1) := by decide +kernel
theorem dX5_init_5 : decode cX5_init 5 = .ok (.new 9, 3) := by decide +kernel
theorem dX5_init_8 : decode cX5_init 8 = .ok (.dup, 1) := by decide +kernel
theorem dX5_init_9 : decode cX5_init 9 = .ok (.invokespecial 11, 3) := by decide +kernel
theorem dX5_init_12 : decode cX5_init 12 = .ok (.putfield 12, 3) := by decide +kernel
theorem dX5_init_15 : decode cX5_init 15 = .ok (.aload_n 0, 1) := by decide +kernel
theorem dX5_init_16 : decode cX5_init 16 = .ok (.new 18, 3) := by decide +kernel
theorem dX5_init_19 : decode cX5_init 19 = .ok (.dup, 1) := by decide +kernel
theorem dX5_init_20 : decode cX5_init 20 = .ok (.invokespecial 20, 3) := by decide +kernel
theorem dX5_init_23 : decode cX5_init 23 = .ok (.putfield 21, 3) := by decide +kernel
theorem dX5_init_26 : decode cX5_init 26 = .ok (.aload_n 0, 1) := by decide +kernel
theorem dX5_init_27 : decode cX5_init 27 = .ok (.new 25, 3) := by decide +kernel
theorem dX5_init_30 : decode cX5_init 30 = .ok (.dup, 1) := by decide +kernel
theorem dX5_init_31 : decode cX5_init 31 = .ok (.invokespecial 27, 3) := by decide +kernel
theorem dX5_init_34 : decode cX5_init 34 = .ok (.putfield 28, 3) := by decide +kernel
theorem dX5_init_37 : decode cX5_init 37 = .ok (.aload_n 0, 1) := by decide +kernel
theorem dX5_init_38 : decode cX5_init 38 = .ok (.bipush 12, 2) := by decide +kernel
theorem dX5_init_40 : decode cX5_init 40 = .ok (.newarray .int, 2) := by decide +kernel
theorem dX5_init_42 : decode cX5_init 42 = .ok (.putfield 32, 3) := by decide +kernel
theorem dX5_init_45 : decode cX5_init 45 = .ok (.aload_n 0, 1) := by decide +kernel
theorem dX5_init_46 : decode cX5_init 46 = .ok (.bipush 10, 2) := by decide +kernel
theorem dX5_init_48 : decode cX5_init 48 = .ok (.newarray .int, 2) := by decide +kernel
theorem dX5_init_50 : decode cX5_init 50 = .ok (.putfield 36, 3) := by decide +kernel
theorem dX5_init_53 : decode cX5_init 53 = .ok (.aload_n 0, 1) := by decide +kernel
theorem dX5_init_54 : decode cX5_init 54 = .ok (.iconst 1, 1) := by decide +kernel
theorem dX5_init_55 : decode cX5_init 55 = .ok (.putfield 39, 3) := by decide +kernel
theorem dX5_init_58 : decode cX5_init 58 = .ok (.aload_n 0, 1) := by decide +kernel
theorem dX5_init_59 : decode cX5_init 59 = .ok (.iconst 0, 1) := by decide +kernel
theorem dX5_init_60 : decode cX5_init 60 = .ok (.putfield 43, 3) := by decide +kernel
theorem dX5_init_63 : decode cX5_init 63 = .ok (.aload_n 0, 1) := by decide +kernel
theorem dX5_init_64 : decode cX5_init 64 = .ok (.getfield 36, 3) := by decide +kernel
theorem dX5_init_67 : decode cX5_init 67 = .ok (.iconst (-1), 1) := by decide +kernel
theorem dX5_init_68 : decode cX5_init 68 = .ok (.invokestatic 46, 3) := by decide +kernel
theorem dX5_init_71 : decode cX5_init 71 = .ok (.return_, 1) := by decide +kernel
theorem dX5_become_0 : decode cX5_become 0 = .ok (.aload_n 0, 1) := by decide +kernel
theorem dX5_become_1 : decode cX5_become 1 = .ok (.getfield 12, 3) := by decide +kernel
theorem dX5_become_4 : decode cX5_become 4 = .ok (.aload_n 1, 1) := by decide +kernel
theorem dX5_become_5 : decode cX5_become 5 = .ok (.getfield 12, 3) := by decide +kernel
theorem dX5_become_8 : decode cX5_become 8 = .ok (.invokevirtual 52, 3) := by decide +kernel
theorem dX5_become_11 : decode cX5_become 11 = .ok (.aload_n 0, 1) := by decide +kernel
theorem dX5_become_12 : decode cX5_become 12 = .ok (.getfield 21, 3) := by decide +kernel
theorem dX5_become_15 : decode cX5_become 15 = .ok (.aload_n 1, 1) := by decide +kernel
theorem dX5_become_16 : decode cX5_become 16 = .ok (.getfield 21, 3) := by decide +kernel
theorem dX5_become_19 : decode cX5_become 19 = .ok (.invokevirtual 56, 3) := by decide +kernel
theorem dX5_become_22 : decode cX5_become 22 = .ok (.aload_n 0, 1) := by decide +kernel
theorem dX5_become_23 : decode cX5_become 23 = .ok (.getfield 28, 3) := by decide +kernel
theorem dX5_become_26 : decode cX5_become 26 = .ok (.aload_n 1, 1) := by decide +kernel
theorem dX5_become_27 : decode cX5_become 27 = .ok (.getfield 28, 3) := by decide +kernel
theorem dX5_become_30 : decode cX5_become 30 = .ok (.invokevirtual 59, 3) := by decide +kernel
theorem dX5_become_33 : decode cX5_become 33 = .ok (.aload_n 1, 1) := by decide +kernel
theorem dX5_become_34 : decode cX5_become 34 = .ok (.getfield 32, 3) := by decide +kernel
theorem dX5_become_37 : decode cX5_become 37 = .ok (.aload_n 0, 1) := by decide +kernel
theorem dX5_become_38 : decode cX5_become 38 = .ok (.getfield 32, 3) := by decide +kernel
theorem dX5_become_41 : decode cX5_become 41 = .ok (.invokestatic 62, 3) := by decide +kernel
theorem dX5_become_44 : decode cX5_become 44 = .ok (.aload_n 1, 1) := by decide +kernel
theorem dX5_become_45 : decode cX5_become 45 = .ok (.getfield 36, 3) := by decide +kernel
theorem dX5_become_48 : decode cX5_become 48 = .ok (.aload_n 0, 1) := by decide +kernel
theorem dX5_become_49 : decode cX5_become 49 = .ok (.getfield 36, 3) := by decide +kernel
theorem dX5_become_52 : decode cX5_become 52 = .ok (.invokestatic 62, 3) := by decide +kernel
theorem dX5_become_55 : decode cX5_become 55 = .ok (.aload_n 0, 1) := by decide +kernel
theorem dX5_become_56 : decode cX5_become 56 = .ok (.aload_n 1, 1) := by decide +kernel
theorem dX5_become_57 : decode cX5_become 57 = .ok (.getfield 39, 3) := by decide +kernel
theorem dX5_become_60 : decode cX5_become 60 = .ok (.putfield 39, 3) := by decide +kernel
theorem dX5_become_63 : decode cX5_become 63 = .ok (.aload_n 0, 1) := by decide +kernel
theorem dX5_become_64 : decode cX5_become 64 = .ok (.aload_n 1, 1) := by decide +kernel
theorem dX5_become_65 : decode cX5_become 65 = .ok (.getfield 43, 3) := by decide +kernel
theorem dX5_become_68 : decode cX5_become 68 = .ok (.putfield 43, 3) := by decide +kernel
theorem dX5_become_71 : decode cX5_become 71 = .ok (.return_, 1) := by decide +kernel
theorem dX5_draw_0 : decode cX5_draw 0 = .ok (.aload_n 0, 1) := by decide +kernel
theorem dX5_draw_1 : decode cX5_draw 1 = .ok (.aload_n 0, 1) := by decide +kernel
theorem dX5_draw_2 : decode cX5_draw 2 = .ok (.getfield 39, 3) := by decide +kernel
theorem dX5_draw_5 : decode cX5_draw 5 = .ok (.ldc 66, 2) := by decide +kernel
theorem dX5_draw_7 : decode cX5_draw 7 = .ok (.imul, 1) := by decide +kernel
theorem dX5_draw_8 : decode cX5_draw 8 = .ok (.sipush 12345, 3) := by decide +kernel
theorem dX5_draw_11 : decode cX5_draw 11 = .ok (.iadd, 1) := by decide +kernel
theorem dX5_draw_12 : decode cX5_draw 12 = .ok (.putfield 39, 3) := by decide +kernel
theorem dX5_draw_15 : decode cX5_draw 15 = .ok (.aload_n 0, 1) := by decide +kernel
theorem dX5_draw_16 : decode cX5_draw 16 = .ok (.getfield 39, 3) := by decide +kernel
theorem dX5_draw_19 : decode cX5_draw 19 = .ok (.bipush 8, 2) := by decide +kernel
theorem dX5_draw_21 : decode cX5_draw 21 = .ok (.iushr, 1) := by decide +kernel
theorem dX5_draw_22 : decode cX5_draw 22 = .ok (.ireturn, 1) := by decide +kernel
theorem dX5_makeDrop_0 : decode cX5_makeDrop 0 = .ok (.aload_n 0, 1) := by decide +kernel
theorem dX5_makeDrop_1 : decode cX5_makeDrop 1 = .ok (.getfield 21, 3) := by decide +kernel
theorem dX5_makeDrop_4 : decode cX5_makeDrop 4 = .ok (.invokevirtual 67, 3) := by decide +kernel
theorem dX5_makeDrop_7 : decode cX5_makeDrop 7 = .ok (.istore 4, 2) := by decide +kernel
theorem dX5_makeDrop_9 : decode cX5_makeDrop 9 = .ok (.iload 4, 2) := by decide +kernel
theorem dX5_makeDrop_11 : decode cX5_makeDrop 11 = .ok (.iconst (-1), 1) := by decide +kernel
theorem dX5_makeDrop_12 : decode cX5_makeDrop 12 = .ok (.if_icmp .eq 58, 3) := by decide +kernel
theorem dX5_makeDrop_15 : decode cX5_makeDrop 15 = .ok (.aload_n 0, 1) := by decide +kernel
theorem dX5_makeDrop_16 : decode cX5_makeDrop 16 = .ok (.getfield 21, 3) := by decide +kernel
theorem dX5_makeDrop_19 : decode cX5_makeDrop 19 = .ok (.getfield 71, 3) := by decide +kernel
theorem dX5_makeDrop_22 : decode cX5_makeDrop 22 = .ok (.iload 4, 2) := by decide +kernel
theorem dX5_makeDrop_24 : decode cX5_makeDrop 24 = .ok (.iload_n 1, 1) := by decide +kernel
theorem dX5_makeDrop_25 : decode cX5_makeDrop 25 = .ok (.iastore, 1) := by decide +kernel
theorem dX5_makeDrop_26 : decode cX5_makeDrop 26 = .ok (.aload_n 0, 1) := by decide +kernel
theorem dX5_makeDrop_27 : decode cX5_makeDrop 27 = .ok (.getfield 21, 3) := by decide +kernel
theorem dX5_makeDrop_30 : decode cX5_makeDrop 30 = .ok (.getfield 74, 3) := by decide +kernel
theorem dX5_makeDrop_33 : decode cX5_makeDrop 33 = .ok (.iload 4, 2) := by decide +kernel
theorem dX5_makeDrop_35 : decode cX5_makeDrop 35 = .ok (.iload_n 2, 1) := by decide +kernel
theorem dX5_makeDrop_36 : decode cX5_makeDrop 36 = .ok (.iastore, 1) := by decide +kernel
theorem dX5_makeDrop_37 : decode cX5_makeDrop 37 = .ok (.aload_n 0, 1) := by decide +kernel
theorem dX5_makeDrop_38 : decode cX5_makeDrop 38 = .ok (.getfield 21, 3) := by decide +kernel
theorem dX5_makeDrop_41 : decode cX5_makeDrop 41 = .ok (.getfield 77, 3) := by decide +kernel
theorem dX5_makeDrop_44 : decode cX5_makeDrop 44 = .ok (.iload 4, 2) := by decide +kernel
theorem dX5_makeDrop_46 : decode cX5_makeDrop 46 = .ok (.iload_n 3, 1) := by decide +kernel
theorem dX5_makeDrop_47 : decode cX5_makeDrop 47 = .ok (.iastore, 1) := by decide +kernel
theorem dX5_makeDrop_48 : decode cX5_makeDrop 48 = .ok (.aload_n 0, 1) := by decide +kernel
theorem dX5_makeDrop_49 : decode cX5_makeDrop 49 = .ok (.getfield 21, 3) := by decide +kernel
theorem dX5_makeDrop_52 : decode cX5_makeDrop 52 = .ok (.getfield 80, 3) := by decide +kernel
theorem dX5_makeDrop_55 : decode cX5_makeDrop 55 = .ok (.iload 4, 2) := by decide +kernel
theorem dX5_makeDrop_57 : decode cX5_makeDrop 57 = .ok (.iconst 0, 1) := by decide +kernel
theorem dX5_makeDrop_58 : decode cX5_makeDrop 58 = .ok (.iastore, 1) := by decide +kernel
theorem dX5_makeDrop_59 : decode cX5_makeDrop 59 = .ok (.aload_n 0, 1) := by decide +kernel
theorem dX5_makeDrop_60 : decode cX5_makeDrop 60 = .ok (.getfield 12, 3) := by decide +kernel
theorem dX5_makeDrop_63 : decode cX5_makeDrop 63 = .ok (.getfield 83, 3) := by decide +kernel
theorem dX5_makeDrop_66 : decode cX5_makeDrop 66 = .ok (.iload_n 2, 1) := by decide +kernel
theorem dX5_makeDrop_67 : decode cX5_makeDrop 67 = .ok (.bipush 99, 2) := by decide +kernel
theorem dX5_makeDrop_69 : decode cX5_makeDrop 69 = .ok (.iastore, 1) := by decide +kernel
theorem dX5_makeDrop_70 : decode cX5_makeDrop 70 = .ok (.iload 4, 2) := by decide +kernel
theorem dX5_makeDrop_72 : decode cX5_makeDrop 72 = .ok (.ireturn, 1) := by decide +kernel
theorem dX5_passTicks_0 : decode cX5_passTicks 0 = .ok (.iconst 0, 1) := by decide +kernel
theorem dX5_passTicks_1 : decode cX5_passTicks 1 = .ok (.istore_n 2, 1) := by decide +kernel
theorem dX5_passTicks_2 : decode cX5_passTicks 2 = .ok (.iload_n 2, 1) := by decide +kernel
theorem dX5_passTicks_3 : decode cX5_passTicks 3 = .ok (.iload_n 1, 1) := by decide +kernel
theorem dX5_passTicks_4 : decode cX5_passTicks 4 = .ok (.if_icmp .ge 41, 3) := by decide +kernel
theorem dX5_passTicks_7 : decode cX5_passTicks 7 = .ok (.aload_n 0, 1) := by decide +kernel
theorem dX5_passTicks_8 : decode cX5_passTicks 8 = .ok (.invokevirtual 86, 3) := by decide +kernel
theorem dX5_passTicks_11 : decode cX5_passTicks 11 = .ok (.aload_n 0, 1) := by decide +kernel
theorem dX5_passTicks_12 : decode cX5_passTicks 12 = .ok (.invokevirtual 89, 3) := by decide +kernel
theorem dX5_passTicks_15 : decode cX5_passTicks 15 = .ok (.aload_n 0, 1) := by decide +kernel
theorem dX5_passTicks_16 : decode cX5_passTicks 16 = .ok (.getfield 21, 3) := by decide +kernel
theorem dX5_passTicks_19 : decode cX5_passTicks 19 = .ok (.invokevirtual 92, 3) := by decide +kernel
theorem dX5_passTicks_22 : decode cX5_passTicks 22 = .ok (.aload_n 0, 1) := by decide +kernel
theorem dX5_passTicks_23 : decode cX5_passTicks 23 = .ok (.getfield 12, 3) := by decide +kernel
theorem dX5_passTicks_26 : decode cX5_passTicks 26 = .ok (.invokevirtual 95, 3) := by decide +kernel
theorem dX5_passTicks_29 : decode cX5_passTicks 29 = .ok (.aload_n 0, 1) := by decide +kernel
theorem dX5_passTicks_30 : decode cX5_passTicks 30 = .ok (.dup, 1) := by decide +kernel
theorem dX5_passTicks_31 : decode cX5_passTicks 31 = .ok (.getfield 43, 3) := by decide +kernel
theorem dX5_passTicks_34 : decode cX5_passTicks 34 = .ok (.iconst 1, 1) := by decide +kernel
theorem dX5_passTicks_35 : decode cX5_passTicks 35 = .ok (.iadd, 1) := by decide +kernel
theorem dX5_passTicks_36 : decode cX5_passTicks 36 = .ok (.putfield 43, 3) := by decide +kernel
theorem dX5_passTicks_39 : decode cX5_passTicks 39 = .ok (.iinc 2 1, 3) := by decide +kernel
theorem dX5_passTicks_42 : decode cX5_passTicks 42 = .ok (.goto (-40), 3) := by decide +kernel
theorem dX5_passTicks_45 : decode cX5_passTicks 45 = .ok (.return_, 1) := by decide +kernel
theorem dX5_letGo_0 : decode cX5_letGo 0 = .ok (.iconst 0, 1) := by decide +kernel
theorem dX5_letGo_1 : decode cX5_letGo 1 = .ok (.istore_n 1, 1) := by decide +kernel
theorem dX5_letGo_2 : decode cX5_letGo 2 = .ok (.iload_n 1, 1) := by decide +kernel
theorem dX5_letGo_3 : decode cX5_letGo 3 = .ok (.bipush 8, 2) := by decide +kernel
theorem dX5_letGo_5 : decode cX5_letGo 5 = .ok (.if_icmp .ge 116, 3) := by decide +kernel
theorem dX5_letGo_8 : decode cX5_letGo 8 = .ok (.aload_n 0, 1) := by decide +kernel
theorem dX5_letGo_9 : decode cX5_letGo 9 = .ok (.getfield 21, 3) := by decide +kernel
theorem dX5_letGo_12 : decode cX5_letGo 12 = .ok (.iload_n 1, 1) := by decide +kernel
theorem dX5_letGo_13 : decode cX5_letGo 13 = .ok (.invokevirtual 98, 3) := by decide +kernel
theorem dX5_letGo_16 : decode cX5_letGo 16 = .ok (.ifCond .eq 99, 3) := by decide +kernel
theorem dX5_letGo_19 : decode cX5_letGo 19 = .ok (.aload_n 0, 1) := by decide +kernel
theorem dX5_letGo_20 : decode cX5_letGo 20 = .ok (.getfield 21, 3) := by decide +kernel
theorem dX5_letGo_23 : decode cX5_letGo 23 = .ok (.getfield 74, 3) := by decide +kernel
theorem dX5_letGo_26 : decode cX5_letGo 26 = .ok (.iload_n 1, 1) := by decide +kernel
theorem dX5_letGo_27 : decode cX5_letGo 27 = .ok (.iaload, 1) := by decide +kernel
theorem dX5_letGo_28 : decode cX5_letGo 28 = .ok (.istore_n 2, 1) := by decide +kernel
theorem dX5_letGo_29 : decode cX5_letGo 29 = .ok (.aload_n 0, 1) := by decide +kernel
theorem dX5_letGo_30 : decode cX5_letGo 30 = .ok (.getfield 12, 3) := by decide +kernel
theorem dX5_letGo_33 : decode cX5_letGo 33 = .ok (.aload_n 0, 1) := by decide +kernel
theorem dX5_letGo_34 : decode cX5_letGo 34 = .ok (.getfield 21, 3) := by decide +kernel
theorem dX5_letGo_37 : decode cX5_letGo 37 = .ok (.getfield 71, 3) := by decide +kernel
theorem dX5_letGo_40 : decode cX5_letGo 40 = .ok (.iload_n 1, 1) := by decide +kernel
theorem dX5_letGo_41 : decode cX5_letGo 41 = .ok (.iaload, 1) := by decide +kernel
theorem dX5_letGo_42 : decode cX5_letGo 42 = .ok (.iload_n 2, 1) := by decide +kernel
theorem dX5_letGo_43 : decode cX5_letGo 43 = .ok (.aload_n 0, 1) := by decide +kernel
theorem dX5_letGo_44 : decode cX5_letGo 44 = .ok (.getfield 21, 3) := by decide +kernel
theorem dX5_letGo_47 : decode cX5_letGo 47 = .ok (.getfield 77, 3) := by decide +kernel
theorem dX5_letGo_50 : decode cX5_letGo 50 = .ok (.iload_n 1, 1) := by decide +kernel
theorem dX5_letGo_51 : decode cX5_letGo 51 = .ok (.iaload, 1) := by decide +kernel
theorem dX5_letGo_52 : decode cX5_letGo 52 = .ok (.aload_n 0, 1) := by decide +kernel
theorem dX5_letGo_53 : decode cX5_letGo 53 = .ok (.getfield 21, 3) := by decide +kernel
theorem dX5_letGo_56 : decode cX5_letGo 56 = .ok (.getfield 80, 3) := by decide +kernel
theorem dX5_letGo_59 : decode cX5_letGo 59 = .ok (.iload_n 1, 1) := by decide +kernel
theorem dX5_letGo_60 : decode cX5_letGo 60 = .ok (.iaload, 1) := by decide +kernel
theorem dX5_letGo_61 : decode cX5_letGo 61 = .ok (.invokevirtual 102, 3) := by decide +kernel
theorem dX5_letGo_64 : decode cX5_letGo 64 = .ok (.istore_n 3, 1) := by decide +kernel
theorem dX5_letGo_65 : decode cX5_letGo 65 = .ok (.iload_n 3, 1) := by decide +kernel
theorem dX5_letGo_66 : decode cX5_letGo 66 = .ok (.iconst (-1), 1) := by decide +kernel
theorem dX5_letGo_67 : decode cX5_letGo 67 = .ok (.if_icmp .ne 37, 3) := by decide +kernel
theorem dX5_letGo_70 : decode cX5_letGo 70 = .ok (.aload_n 0, 1) := by decide +kernel
theorem dX5_letGo_71 : decode cX5_letGo 71 = .ok (.getfield 32, 3) := by decide +kernel
theorem dX5_letGo_74 : decode cX5_letGo 74 = .ok (.iload_n 2, 1) := by decide +kernel
theorem dX5_letGo_75 : decode cX5_letGo 75 = .ok (.invokestatic 106, 3) := by decide +kernel
theorem dX5_letGo_78 : decode cX5_letGo 78 = .ok (.dup2, 1) := by decide +kernel
theorem dX5_letGo_79 : decode cX5_letGo 79 = .ok (.iaload, 1) := by decide +kernel
theorem dX5_letGo_80 : decode cX5_letGo 80 = .ok (.aload_n 0, 1) := by decide +kernel
theorem dX5_letGo_81 : decode cX5_letGo 81 = .ok (.getfield 21, 3) := by decide +kernel
theorem dX5_letGo_84 : decode cX5_letGo 84 = .ok (.getfield 77, 3) := by decide +kernel
theorem dX5_letGo_87 : decode cX5_letGo 87 = .ok (.iload_n 1, 1) := by decide +kernel
theorem dX5_letGo_88 : decode cX5_letGo 88 = .ok (.iaload, 1) := by decide +kernel
theorem dX5_letGo_89 : decode cX5_letGo 89 = .ok (.iadd, 1) := by decide +kernel
theorem dX5_letGo_90 : decode cX5_letGo 90 = .ok (.iastore, 1) := by decide +kernel
theorem dX5_letGo_91 : decode cX5_letGo 91 = .ok (.aload_n 0, 1) := by decide +kernel
theorem dX5_letGo_92 : decode cX5_letGo 92 = .ok (.getfield 21, 3) := by decide +kernel
theorem dX5_letGo_95 : decode cX5_letGo 95 = .ok (.getfield 77, 3) := by decide +kernel
theorem dX5_letGo_98 : decode cX5_letGo 98 = .ok (.iload_n 1, 1) := by decide +kernel
theorem dX5_letGo_99 : decode cX5_letGo 99 = .ok (.iconst 0, 1) := by decide +kernel
theorem dX5_letGo_100 : decode cX5_letGo 100 = .ok (.iastore, 1) := by decide +kernel
theorem dX5_letGo_101 : decode cX5_letGo 101 = .ok (.goto 14, 3) := by decide +kernel
theorem dX5_letGo_104 : decode cX5_letGo 104 = .ok (.iload_n 3, 1) := by decide +kernel
theorem dX5_letGo_105 : decode cX5_letGo 105 = .ok (.iload_n 2, 1) := by decide +kernel
theorem dX5_letGo_106 : decode cX5_letGo 106 = .ok (.if_icmp .eq 9, 3) := by decide +kernel
theorem dX5_letGo_109 : decode cX5_letGo 109 = .ok (.aload_n 0, 1) := by decide +kernel
theorem dX5_letGo_110 : decode cX5_letGo 110 = .ok (.iload_n 1, 1) := by decide +kernel
theorem dX5_letGo_111 : decode cX5_letGo 111 = .ok (.iload_n 3, 1) := by decide +kernel
theorem dX5_letGo_112 : decode cX5_letGo 112 = .ok (.invokevirtual 110, 3) := by decide +kernel
theorem dX5_letGo_115 : decode cX5_letGo 115 = .ok (.iinc 1 1, 3) := by decide +kernel
theorem dX5_letGo_118 : decode cX5_letGo 118 = .ok (.goto (-116), 3) := by decide +kernel
theorem dX5_letGo_121 : decode cX5_letGo 121 = .ok (.return_, 1) := by decide +kernel
theorem dX5_comeTo_0 : decode cX5_comeTo 0 = .ok (.aload_n 0, 1) := by decide +kernel
theorem dX5_comeTo_1 : decode cX5_comeTo 1 = .ok (.getfield 21, 3) := by decide +kernel
theorem dX5_comeTo_4 : decode cX5_comeTo 4 = .ok (.getfield 74, 3) := by decide +kernel
theorem dX5_comeTo_7 : decode cX5_comeTo 7 = .ok (.iload_n 1, 1) := by decide +kernel
theorem dX5_comeTo_8 : decode cX5_comeTo 8 = .ok (.iload_n 2, 1) := by decide +kernel
theorem dX5_comeTo_9 : decode cX5_comeTo 9 = .ok (.iastore, 1) := by decide +kernel
theorem dX5_comeTo_10 : decode cX5_comeTo 10 = .ok (.aload_n 0, 1) := by decide +kernel
theorem dX5_comeTo_11 : decode cX5_comeTo 11 = .ok (.getfield 21, 3) := by decide +kernel
theorem dX5_comeTo_14 : decode cX5_comeTo 14 = .ok (.getfield 80, 3) := by decide +kernel
theorem dX5_comeTo_17 : decode cX5_comeTo 17 = .ok (.iload_n 1, 1) := by decide +kernel
theorem dX5_comeTo_18 : decode cX5_comeTo 18 = .ok (.dup2, 1) := by decide +kernel
theorem dX5_comeTo_19 : decode cX5_comeTo 19 = .ok (.iaload, 1) := by decide +kernel
theorem dX5_comeTo_20 : decode cX5_comeTo 20 = .ok (.iconst 1, 1) := by decide +kernel
theorem dX5_comeTo_21 : decode cX5_comeTo 21 = .ok (.iadd, 1) := by decide +kernel
theorem dX5_comeTo_22 : decode cX5_comeTo 22 = .ok (.iastore, 1) := by decide +kernel
theorem dX5_comeTo_23 : decode cX5_comeTo 23 = .ok (.aload_n 0, 1) := by decide +kernel
theorem dX5_comeTo_24 : decode cX5_comeTo 24 = .ok (.getfield 12, 3) := by decide +kernel
theorem dX5_comeTo_27 : decode cX5_comeTo 27 = .ok (.getfield 83, 3) := by decide +kernel
theorem dX5_comeTo_30 : decode cX5_comeTo 30 = .ok (.iload_n 2, 1) := by decide +kernel
theorem dX5_comeTo_31 : decode cX5_comeTo 31 = .ok (.bipush 99, 2) := by decide +kernel
theorem dX5_comeTo_33 : decode cX5_comeTo 33 = .ok (.iastore, 1) := by decide +kernel
theorem dX5_comeTo_34 : decode cX5_comeTo 34 = .ok (.aload_n 0, 1) := by decide +kernel
theorem dX5_comeTo_35 : decode cX5_comeTo 35 = .ok (.getfield 21, 3) := by decide +kernel
theorem dX5_comeTo_38 : decode cX5_comeTo 38 = .ok (.getfield 71, 3) := by decide +kernel
theorem dX5_comeTo_41 : decode cX5_comeTo 41 = .ok (.iload_n 1, 1) := by decide +kernel
theorem dX5_comeTo_42 : decode cX5_comeTo 42 = .ok (.iaload, 1) := by decide +kernel
theorem dX5_comeTo_43 : decode cX5_comeTo 43 = .ok (.iconst 1, 1) := by decide +kernel
theorem dX5_comeTo_44 : decode cX5_comeTo 44 = .ok (.invokestatic 114, 3) := by decide +kernel
theorem dX5_comeTo_47 : decode cX5_comeTo 47 = .ok (.ifCond .eq 16, 3) := by decide +kernel
theorem dX5_comeTo_50 : decode cX5_comeTo 50 = .ok (.aload_n 0, 1) := by decide +kernel
theorem dX5_comeTo_51 : decode cX5_comeTo 51 = .ok (.getfield 21, 3) := by decide +kernel
theorem dX5_comeTo_54 : decode cX5_comeTo 54 = .ok (.getfield 77, 3) := by decide +kernel
theorem dX5_comeTo_57 : decode cX5_comeTo 57 = .ok (.iload_n 1, 1) := by decide +kernel
theorem dX5_comeTo_58 : decode cX5_comeTo 58 = .ok (.dup2, 1) := by decide +kernel
theorem dX5_comeTo_59 : decode cX5_comeTo 59 = .ok (.iaload, 1) := by decide +kernel
theorem dX5_comeTo_60 : decode cX5_comeTo 60 = .ok (.iconst 1, 1) := by decide +kernel
theorem dX5_comeTo_61 : decode cX5_comeTo 61 = .ok (.isub, 1) := by decide +kernel
theorem dX5_comeTo_62 : decode cX5_comeTo 62 = .ok (.iastore, 1) := by decide +kernel
theorem dX5_comeTo_63 : decode cX5_comeTo 63 = .ok (.return_, 1) := by decide +kernel
theorem dX5_blow_0 : decode cX5_blow 0 = .ok (.aload_n 0, 1) := by decide +kernel
theorem dX5_blow_1 : decode cX5_blow 1 = .ok (.getfield 12, 3) := by decide +kernel
theorem dX5_blow_4 : decode cX5_blow 4 = .ok (.getfield 118, 3) := by decide +kernel
theorem dX5_blow_7 : decode cX5_blow 7 = .ok (.ifCond .ge 7, 3) := by decide +kernel
theorem dX5_blow_10 : decode cX5_blow 10 = .ok (.iconst (-1), 1) := by decide +kernel
theorem dX5_blow_11 : decode cX5_blow 11 = .ok (.goto 4, 3) := by decide +kernel
theorem dX5_blow_14 : decode cX5_blow 14 = .ok (.iconst 1, 1) := by decide +kernel
theorem dX5_blow_15 : decode cX5_blow 15 = .ok (.istore_n 1, 1) := by decide +kernel
theorem dX5_blow_16 : decode cX5_blow 16 = .ok (.aload_n 0, 1) := by decide +kernel
theorem dX5_blow_17 : decode cX5_blow 17 = .ok (.getfield 12, 3) := by decide +kernel
theorem dX5_blow_20 : decode cX5_blow 20 = .ok (.getfield 118, 3) := by decide +kernel
theorem dX5_blow_23 : decode cX5_blow 23 = .ok (.invokestatic 121, 3) := by decide +kernel
theorem dX5_blow_26 : decode cX5_blow 26 = .ok (.istore_n 2, 1) := by decide +kernel
theorem dX5_blow_27 : decode cX5_blow 27 = .ok (.iconst 0, 1) := by decide +kernel
theorem dX5_blow_28 : decode cX5_blow 28 = .ok (.istore_n 3, 1) := by decide +kernel
theorem dX5_blow_29 : decode cX5_blow 29 = .ok (.iload_n 3, 1) := by decide +kernel
theorem dX5_blow_30 : decode cX5_blow 30 = .ok (.bipush 8, 2) := by decide +kernel
theorem dX5_blow_32 : decode cX5_blow 32 = .ok (.if_icmp .ge 78, 3) := by decide +kernel
theorem dX5_blow_35 : decode cX5_blow 35 = .ok (.aload_n 0, 1) := by decide +kernel
theorem dX5_blow_36 : decode cX5_blow 36 = .ok (.getfield 21, 3) := by decide +kernel
theorem dX5_blow_39 : decode cX5_blow 39 = .ok (.iload_n 3, 1) := by decide +kernel
theorem dX5_blow_40 : decode cX5_blow 40 = .ok (.invokevirtual 98, 3) := by decide +kernel
theorem dX5_blow_43 : decode cX5_blow 43 = .ok (.ifCond .eq 61, 3) := by decide +kernel
theorem dX5_blow_46 : decode cX5_blow 46 = .ok (.aload_n 0, 1) := by decide +kernel
theorem dX5_blow_47 : decode cX5_blow 47 = .ok (.getfield 21, 3) := by decide +kernel
theorem dX5_blow_50 : decode cX5_blow 50 = .ok (.getfield 77, 3) := by decide +kernel
theorem dX5_blow_53 : decode cX5_blow 53 = .ok (.iload_n 3, 1) := by decide +kernel
theorem dX5_blow_54 : decode cX5_blow 54 = .ok (.iaload, 1) := by decide +kernel
theorem dX5_blow_55 : decode cX5_blow 55 = .ok (.iload_n 2, 1) := by decide +kernel
theorem dX5_blow_56 : decode cX5_blow 56 = .ok (.if_icmp .ge 48, 3) := by decide +kernel
theorem dX5_blow_59 : decode cX5_blow 59 = .ok (.aload_n 0, 1) := by decide +kernel
theorem dX5_blow_60 : decode cX5_blow 60 = .ok (.getfield 21, 3) := by decide +kernel
theorem dX5_blow_63 : decode cX5_blow 63 = .ok (.getfield 74, 3) := by decide +kernel
theorem dX5_blow_66 : decode cX5_blow 66 = .ok (.iload_n 3, 1) := by decide +kernel
theorem dX5_blow_67 : decode cX5_blow 67 = .ok (.iaload, 1) := by decide +kernel
theorem dX5_blow_68 : decode cX5_blow 68 = .ok (.iload_n 1, 1) := by decide +kernel
theorem dX5_blow_69 : decode cX5_blow 69 = .ok (.invokestatic 126, 3) := by decide +kernel
theorem dX5_blow_72 : decode cX5_blow 72 = .ok (.istore 4, 2) := by decide +kernel
theorem dX5_blow_74 : decode cX5_blow 74 = .ok (.iload 4, 2) := by decide +kernel
theorem dX5_blow_76 : decode cX5_blow 76 = .ok (.bipush (-2), 2) := by decide +kernel
theorem dX5_blow_78 : decode cX5_blow 78 = .ok (.if_icmp .eq 26, 3) := by decide +kernel
theorem dX5_blow_81 : decode cX5_blow 81 = .ok (.aload_n 0, 1) := by decide +kernel
theorem dX5_blow_82 : decode cX5_blow 82 = .ok (.getfield 21, 3) := by decide +kernel
theorem dX5_blow_85 : decode cX5_blow 85 = .ok (.getfield 74, 3) := by decide +kernel
theorem dX5_blow_88 : decode cX5_blow 88 = .ok (.iload_n 3, 1) := by decide +kernel
theorem dX5_blow_89 : decode cX5_blow 89 = .ok (.iload 4, 2) := by decide +kernel
theorem dX5_blow_91 : decode cX5_blow 91 = .ok (.iastore, 1) := by decide +kernel
theorem dX5_blow_92 : decode cX5_blow 92 = .ok (.aload_n 0, 1) := by decide +kernel
theorem dX5_blow_93 : decode cX5_blow 93 = .ok (.getfield 12, 3) := by decide +kernel
theorem dX5_blow_96 : decode cX5_blow 96 = .ok (.getfield 83, 3) := by decide +kernel
theorem dX5_blow_99 : decode cX5_blow 99 = .ok (.iload 4, 2) := by decide +kernel
theorem dX5_blow_101 : decode cX5_blow 101 = .ok (.bipush 99, 2) := by decide +kernel
theorem dX5_blow_103 : decode cX5_blow 103 = .ok (.iastore, 1) := by decide +kernel
theorem dX5_blow_104 : decode cX5_blow 104 = .ok (.iinc 3 1, 3) := by decide +kernel
theorem dX5_blow_107 : decode cX5_blow 107 = .ok (.goto (-78), 3) := by decide +kernel
theorem dX5_blow_110 : decode cX5_blow 110 = .ok (.return_, 1) := by decide +kernel
theorem dX5_perform_0 : decode cX5_perform 0 = .ok (.aload_n 0, 1) := by decide +kernel
theorem dX5_perform_1 : decode cX5_perform 1 = .ok (.getfield 28, 3) := by decide +kernel
theorem dX5_perform_4 : decode cX5_perform 4 = .ok (.getfield 130, 3) := by decide +kernel
theorem dX5_perform_7 : decode cX5_perform 7 = .ok (.iload_n 1, 1) := by decide +kernel
theorem dX5_perform_8 : decode cX5_perform 8 = .ok (.iaload, 1) := by decide +kernel
theorem dX5_perform_9 : decode cX5_perform 9 = .ok (.istore_n 2, 1) := by decide +kernel
theorem dX5_perform_10 : decode cX5_perform 10 = .ok (.aload_n 0, 1) := by decide +kernel
theorem dX5_perform_11 : decode cX5_perform 11 = .ok (.getfield 28, 3) := by decide +kernel
theorem dX5_perform_14 : decode cX5_perform 14 = .ok (.getfield 133, 3) := by decide +kernel
theorem dX5_perform_17 : decode cX5_perform 17 = .ok (.iload_n 1, 1) := by decide +kernel
theorem dX5_perform_18 : decode cX5_perform 18 = .ok (.iaload, 1) := by decide +kernel
theorem dX5_perform_19 : decode cX5_perform 19 = .ok (.istore_n 3, 1) := by decide +kernel
theorem dX5_perform_20 : decode cX5_perform 20 = .ok (.iload_n 2, 1) := by decide +kernel
theorem dX5_perform_21 : decode cX5_perform 21 = .ok (.tableswitch 88 8 12 #[35, 43, 54, 65, 76], 35) := by decide +kernel
theorem dX5_perform_56 : decode cX5_perform 56 = .ok (.aload_n 0, 1) := by decide +kernel
theorem dX5_perform_57 : decode cX5_perform 57 = .ok (.iload_n 3, 1) := by decide +kernel
theorem dX5_perform_58 : decode cX5_perform 58 = .ok (.invokevirtual 136, 3) := by decide +kernel
theorem dX5_perform_61 : decode cX5_perform 61 = .ok (.goto 64, 3) := by decide +kernel
theorem dX5_perform_64 : decode cX5_perform 64 = .ok (.aload_n 0, 1) := by decide +kernel
theorem dX5_perform_65 : decode cX5_perform 65 = .ok (.getfield 12, 3) := by decide +kernel
theorem dX5_perform_68 : decode cX5_perform 68 = .ok (.iload_n 3, 1) := by decide +kernel
theorem dX5_perform_69 : decode cX5_perform 69 = .ok (.putfield 140, 3) := by decide +kernel
theorem dX5_perform_72 : decode cX5_perform 72 = .ok (.goto 53, 3) := by decide +kernel
theorem dX5_perform_75 : decode cX5_perform 75 = .ok (.aload_n 0, 1) := by decide +kernel
theorem dX5_perform_76 : decode cX5_perform 76 = .ok (.getfield 12, 3) := by decide +kernel
theorem dX5_perform_79 : decode cX5_perform 79 = .ok (.iload_n 3, 1) := by decide +kernel
theorem dX5_perform_80 : decode cX5_perform 80 = .ok (.putfield 143, 3) := by decide +kernel
theorem dX5_perform_83 : decode cX5_perform 83 = .ok (.goto 42, 3) := by decide +kernel
theorem dX5_perform_86 : decode cX5_perform 86 = .ok (.aload_n 0, 1) := by decide +kernel
theorem dX5_perform_87 : decode cX5_perform 87 = .ok (.getfield 12, 3) := by decide +kernel
theorem dX5_perform_90 : decode cX5_perform 90 = .ok (.iload_n 3, 1) := by decide +kernel
theorem dX5_perform_91 : decode cX5_perform 91 = .ok (.putfield 118, 3) := by decide +kernel
theorem dX5_perform_94 : decode cX5_perform 94 = .ok (.goto 31, 3) := by decide +kernel
theorem dX5_perform_97 : decode cX5_perform 97 = .ok (.aload_n 0, 1) := by decide +kernel
theorem dX5_perform_98 : decode cX5_perform 98 = .ok (.getfield 12, 3) := by decide +kernel
theorem dX5_perform_101 : decode cX5_perform 101 = .ok (.iload_n 3, 1) := by decide +kernel
theorem dX5_perform_102 : decode cX5_perform 102 = .ok (.invokevirtual 146, 3) := by decide +kernel
theorem dX5_perform_105 : decode cX5_perform 105 = .ok (.pop, 1) := by decide +kernel
theorem dX5_perform_106 : decode cX5_perform 106 = .ok (.goto 19, 3) := by decide +kernel
theorem dX5_perform_109 : decode cX5_perform 109 = .ok (.aload_n 0, 1) := by decide +kernel
theorem dX5_perform_110 : decode cX5_perform 110 = .ok (.iload_n 2, 1) := by decide +kernel
theorem dX5_perform_111 : decode cX5_perform 111 = .ok (.aload_n 0, 1) := by decide +kernel
theorem dX5_perform_112 : decode cX5_perform 112 = .ok (.getfield 28, 3) := by decide +kernel
theorem dX5_perform_115 : decode cX5_perform 115 = .ok (.getfield 149, 3) := by decide +kernel
theorem dX5_perform_118 : decode cX5_perform 118 = .ok (.iload_n 1, 1) := by decide +kernel
theorem dX5_perform_119 : decode cX5_perform 119 = .ok (.iaload, 1) := by decide +kernel
theorem dX5_perform_120 : decode cX5_perform 120 = .ok (.iload_n 3, 1) := by decide +kernel
theorem dX5_perform_121 : decode cX5_perform 121 = .ok (.invokevirtual 152, 3) := by decide +kernel
theorem dX5_perform_124 : decode cX5_perform 124 = .ok (.pop, 1) := by decide +kernel
theorem dX5_perform_125 : decode cX5_perform 125 = .ok (.return_, 1) := by decide +kernel
theorem dX6_init_0 : decode cX6_init 0 = .ok (.aload_n 0, 1) := by decide +kernel
theorem dX6_init_1 : decode cX6_init 1 = .ok (.invokespecial 3, 3) := by decide +kernel
theorem dX6_init_4 : decode cX6_init 4 = .ok (.aload_n 0, 1) := by decide +kernel
theorem dX6_init_5 : decode cX6_init 5 = .ok (.iconst 0, 1) := by decide +kernel
theorem dX6_init_6 : decode cX6_init 6 = .ok (.putfield 9, 3) := by decide +kernel
theorem dX6_init_9 : decode cX6_init 9 = .ok (.aload_n 0, 1) := by decide +kernel
theorem dX6_init_10 : decode cX6_init 10 = .ok (.iconst 0, 1) := by decide +kernel
theorem dX6_init_11 : decode cX6_init 11 = .ok (.putfield 15, 3) := by decide +kernel
theorem dX6_init_14 : decode cX6_init 14 = .ok (.aload_n 0, 1) := by decide +kernel
theorem dX6_init_15 : decode cX6_init 15 = .ok (.bipush 40, 2) := by decide +kernel
theorem dX6_init_17 : decode cX6_init 17 = .ok (.newarray .int, 2) := by decide +kernel
theorem dX6_init_19 : decode cX6_init 19 = .ok (.putfield 18, 3) := by decide +kernel
theorem dX6_init_22 : decode cX6_init 22 = .ok (.return_, 1) := by decide +kernel
theorem dX6_isMissing_0 : decode cX6_isMissing 0 = .ok (.aload_n 0, 1) := by decide +kernel
theorem dX6_isMissing_1 : decode cX6_isMissing 1 = .ok (.getfield 9, 3) := by decide +kernel
theorem dX6_isMissing_4 : decode cX6_isMissing 4 = .ok (.ifCond .ne 7, 3) := by decide +kernel
theorem dX6_isMissing_7 : decode cX6_isMissing 7 = .ok (.iconst 1, 1) := by decide +kernel
theorem dX6_isMissing_8 : decode cX6_isMissing 8 = .ok (.goto 4, 3) := by decide +kernel
theorem dX6_isMissing_11 : decode cX6_isMissing 11 = .ok (.iconst 0, 1) := by decide +kernel
theorem dX6_isMissing_12 : decode cX6_isMissing 12 = .ok (.ireturn, 1) := by decide +kernel
theorem dX6_begin_0 : decode cX6_begin 0 = .ok (.aload_n 0, 1) := by decide +kernel
theorem dX6_begin_1 : decode cX6_begin 1 = .ok (.iload_n 1, 1) := by decide +kernel
theorem dX6_begin_2 : decode cX6_begin 2 = .ok (.putfield 9, 3) := by decide +kernel
theorem dX6_begin_5 : decode cX6_begin 5 = .ok (.aload_n 0, 1) := by decide +kernel
theorem dX6_begin_6 : decode cX6_begin 6 = .ok (.iload_n 2, 1) := by decide +kernel
theorem dX6_begin_7 : decode cX6_begin 7 = .ok (.putfield 15, 3) := by decide +kernel
theorem dX6_begin_10 : decode cX6_begin 10 = .ok (.aload_n 0, 1) := by decide +kernel
theorem dX6_begin_11 : decode cX6_begin 11 = .ok (.getfield 18, 3) := by decide +kernel
theorem dX6_begin_14 : decode cX6_begin 14 = .ok (.iconst 0, 1) := by decide +kernel
theorem dX6_begin_15 : decode cX6_begin 15 = .ok (.invokestatic 22, 3) := by decide +kernel
theorem dX6_begin_18 : decode cX6_begin 18 = .ok (.return_, 1) := by decide +kernel
theorem dX6_put_0 : decode cX6_put 0 = .ok (.aload_n 0, 1) := by decide +kernel
theorem dX6_put_1 : decode cX6_put 1 = .ok (.getfield 9, 3) := by decide +kernel
theorem dX6_put_4 : decode cX6_put 4 = .ok (.lookupswitch 50 #[(8, 28), (16, 39)], 28) := by decide +kernel
theorem dX6_put_32 : decode cX6_put 32 = .ok (.aload_n 0, 1) := by decide +kernel
theorem dX6_put_33 : decode cX6_put 33 = .ok (.getfield 18, 3) := by decide +kernel
theorem dX6_put_36 : decode cX6_put 36 = .ok (.iload_n 1, 1) := by decide +kernel
theorem dX6_put_37 : decode cX6_put 37 = .ok (.iload_n 2, 1) := by decide +kernel
theorem dX6_put_38 : decode cX6_put 38 = .ok (.i2b, 1) := by decide +kernel
theorem dX6_put_39 : decode cX6_put 39 = .ok (.iastore, 1) := by decide +kernel
theorem dX6_put_40 : decode cX6_put 40 = .ok (.goto 21, 3) := by decide +kernel
theorem dX6_put_43 : decode cX6_put 43 = .ok (.aload_n 0, 1) := by decide +kernel
theorem dX6_put_44 : decode cX6_put 44 = .ok (.getfield 18, 3) := by decide +kernel
theorem dX6_put_47 : decode cX6_put 47 = .ok (.iload_n 1, 1) := by decide +kernel
theorem dX6_put_48 : decode cX6_put 48 = .ok (.iload_n 2, 1) := by decide +kernel
theorem dX6_put_49 : decode cX6_put 49 = .ok (.i2s, 1) := by decide +kernel
theorem dX6_put_50 : decode cX6_put 50 = .ok (.iastore, 1) := by decide +kernel
theorem dX6_put_51 : decode cX6_put 51 = .ok (.goto 10, 3) := by decide +kernel
theorem dX6_put_54 : decode cX6_put 54 = .ok (.aload_n 0, 1) := by decide +kernel
theorem dX6_put_55 : decode cX6_put 55 = .ok (.getfield 18, 3) := by decide +kernel
theorem dX6_put_58 : decode cX6_put 58 = .ok (.iload_n 1, 1) := by decide +kernel
theorem dX6_put_59 : decode cX6_put 59 = .ok (.iload_n 2, 1) := by decide +kernel
theorem dX6_put_60 : decode cX6_put 60 = .ok (.iastore, 1) := by decide +kernel
theorem dX6_put_61 : decode cX6_put 61 = .ok (.return_, 1) := by decide +kernel
theorem dX6_hasStretch_0 : decode cX6_hasStretch 0 = .ok (.iload_n 1, 1) := by decide +kernel
theorem dX6_hasStretch_1 : decode cX6_hasStretch 1 = .ok (.ifCond .lt 21, 3) := by decide +kernel
theorem dX6_hasStretch_4 : decode cX6_hasStretch 4 = .ok (.iload_n 2, 1) := by decide +kernel
theorem dX6_hasStretch_5 : decode cX6_hasStretch 5 = .ok (.ifCond .lt 17, 3) := by decide +kernel
theorem dX6_hasStretch_8 : decode cX6_hasStretch 8 = .ok (.iload_n 1, 1) := by decide +kernel
theorem dX6_hasStretch_9 : decode cX6_hasStretch 9 = .ok (.aload_n 0, 1) := by decide +kernel
theorem dX6_hasStretch_10 : decode cX6_hasStretch 10 = .ok (.getfield 15, 3) := by decide +kernel
theorem dX6_hasStretch_13 : decode cX6_hasStretch 13 = .ok (.iload_n 2, 1) := by decide +kernel
theorem dX6_hasStretch_14 : decode cX6_hasStretch 14 = .ok (.isub, 1) := by decide +kernel
theorem dX6_hasStretch_15 : decode cX6_hasStretch 15 = .ok (.if_icmp .gt 7, 3) := by decide +kernel
theorem dX6_hasStretch_18 : decode cX6_hasStretch 18 = .ok (.iconst 1, 1) := by decide +kernel
theorem dX6_hasStretch_19 : decode cX6_hasStretch 19 = .ok (.goto 4, 3) := by decide +kernel
theorem dX6_hasStretch_22 : decode cX6_hasStretch 22 = .ok (.iconst 0, 1) := by decide +kernel
theorem dX6_hasStretch_23 : decode cX6_hasStretch 23 = .ok (.ireturn, 1) := by decide +kernel
theorem dX7_init_0 : decode cX7_init 0 = .ok (.aload_n 0, 1) := by decide +kernel
theorem dX7_init_1 : decode cX7_init 1 = .ok (.invokespecial 3, 3) := by decide +kernel
theorem dX7_init_4 : decode cX7_init 4 = .ok (.aload_n 0, 1) := by decide +kernel
theorem dX7_init_5 : decode cX7_init 5 = .ok (.bipush 100, 2) := by decide +kernel
theorem dX7_init_7 : decode cX7_init 7 = .ok (.newarray .int, 2) := by decide +kernel
theorem dX7_init_9 : decode cX7_init 9 = .ok (.putfield 9, 3) := by decide +kernel
theorem dX7_init_12 : decode cX7_init 12 = .ok (.aload_n 0, 1) := by decide +kernel
theorem dX7_init_13 : decode cX7_init 13 = .ok (.iconst 0, 1) := by decide +kernel
theorem dX7_init_14 : decode cX7_init 14 = .ok (.putfield 15, 3) := by decide +kernel
theorem dX7_init_17 : decode cX7_init 17 = .ok (.return_, 1) := by decide +kernel
theorem dX7_append_0 : decode cX7_append 0 = .ok (.iload_n 2, 1) := by decide +kernel
theorem dX7_append_1 : decode cX7_append 1 = .ok (.iconst 1, 1) := by decide +kernel
theorem dX7_append_2 : decode cX7_append 2 = .ok (.isub, 1) := by decide +kernel
theorem dX7_append_3 : decode cX7_append 3 = .ok (.istore_n 3, 1) := by decide +kernel
theorem dX7_append_4 : decode cX7_append 4 = .ok (.iload_n 3, 1) := by decide +kernel
theorem dX7_append_5 : decode cX7_append 5 = .ok (.ifCond .lt 38, 3) := by decide +kernel
theorem dX7_append_8 : decode cX7_append 8 = .ok (.aload_n 0, 1) := by decide +kernel
theorem dX7_append_9 : decode cX7_append 9 = .ok (.getfield 9, 3) := by decide +kernel
theorem dX7_append_12 : decode cX7_append 12 = .ok (.aload_n 0, 1) := by decide +kernel
theorem dX7_append_13 : decode cX7_append 13 = .ok (.getfield 15, 3) := by decide +kernel
theorem dX7_append_16 : decode cX7_append 16 = .ok (.iload_n 1, 1) := by decide +kernel
theorem dX7_append_17 : decode cX7_append 17 = .ok (.bipush 8, 2) := by decide +kernel
theorem dX7_append_19 : decode cX7_append 19 = .ok (.iload_n 3, 1) := by decide +kernel
theorem dX7_append_20 : decode cX7_append 20 = .ok (.imul, 1) := by decide +kernel
theorem dX7_append_21 : decode cX7_append 21 = .ok (.iushr, 1) := by decide +kernel
theorem dX7_append_22 : decode cX7_append 22 = .ok (.sipush 255, 3) := by decide +kernel
theorem dX7_append_25 : decode cX7_append 25 = .ok (.iand, 1) := by decide +kernel
theorem dX7_append_26 : decode cX7_append 26 = .ok (.iastore, 1) := by decide +kernel
theorem dX7_append_27 : decode cX7_append 27 = .ok (.aload_n 0, 1) := by decide +kernel
theorem dX7_append_28 : decode cX7_append 28 = .ok (.dup, 1) := by decide +kernel
theorem dX7_append_29 : decode cX7_append 29 = .ok (.getfield 15, 3) := by decide +kernel
theorem dX7_append_32 : decode cX7_append 32 = .ok (.iconst 1, 1) := by decide +kernel
theorem dX7_append_33 : decode cX7_append 33 = .ok (.iadd, 1) := by decide +kernel
theorem dX7_append_34 : decode cX7_append 34 = .ok (.putfield 15, 3) := by decide +kernel
theorem dX7_append_37 : decode cX7_append 37 = .ok (.iinc 3 (-1), 3) := by decide +kernel
theorem dX7_append_40 : decode cX7_append 40 = .ok (.goto (-36), 3) := by decide +kernel
theorem dX7_append_43 : decode cX7_append 43 = .ok (.return_, 1) := by decide +kernel
theorem dX8_init_0 : decode cX8_init 0 = .ok (.aload_n 0, 1) := by decide +kernel
theorem dX8_init_1 : decode cX8_init 1 = .ok (.invokespecial 3, 3) := by decide +kernel
theorem dX8_init_4 : decode cX8_init 4 = .ok (.aload_n 0, 1) := by decide +kernel
theorem dX8_init_5 : decode cX8_init 5 = .ok (.bipush 65, 2) := by decide +kernel
theorem dX8_init_7 : decode cX8_init 7 = .ok (.newarray .int, 2) := by decide +kernel
theorem dX8_init_9 : decode cX8_init 9 = .ok (.putfield 9, 3) := by decide +kernel
theorem dX8_init_12 : decode cX8_init 12 = .ok (.return_, 1) := by decide +kernel
theorem dX8_follow_0 : decode cX8_follow 0 = .ok (.aload_n 0, 1) := by decide +kernel
theorem dX8_follow_1 : decode cX8_follow 1 = .ok (.getfield 9, 3) := by decide +kernel
theorem dX8_follow_4 : decode cX8_follow 4 = .ok (.iconst 0, 1) := by decide +kernel
theorem dX8_follow_5 : decode cX8_follow 5 = .ok (.iload_n 3, 1) := by decide +kernel
theorem dX8_follow_6 : decode cX8_follow 6 = .ok (.iastore, 1) := by decide +kernel
theorem dX8_follow_7 : decode cX8_follow 7 = .ok (.aload_n 0, 1) := by decide +kernel
theorem dX8_follow_8 : decode cX8_follow 8 = .ok (.iconst 0, 1) := by decide +kernel
theorem dX8_follow_9 : decode cX8_follow 9 = .ok (.putfield 15, 3) := by decide +kernel
theorem dX8_follow_12 : decode cX8_follow 12 = .ok (.aload_n 0, 1) := by decide +kernel
theorem dX8_follow_13 : decode cX8_follow 13 = .ok (.iload 4, 2) := by decide +kernel
theorem dX8_follow_15 : decode cX8_follow 15 = .ok (.putfield 19, 3) := by decide +kernel
theorem dX8_follow_18 : decode cX8_follow 18 = .ok (.aload_n 0, 1) := by decide +kernel
theorem dX8_follow_19 : decode cX8_follow 19 = .ok (.iconst (-1), 1) := by decide +kernel
theorem dX8_follow_20 : decode cX8_follow 20 = .ok (.putfield 22, 3) := by decide +kernel
theorem dX8_follow_23 : decode cX8_follow 23 = .ok (.iload_n 2, 1) := by decide +kernel
theorem dX8_follow_24 : decode cX8_follow 24 = .ok (.iconst 1, 1) := by decide +kernel
theorem dX8_follow_25 : decode cX8_follow 25 = .ok (.invokestatic 25, 3) := by decide +kernel
theorem dX8_follow_28 : decode cX8_follow 28 = .ok (.istore 5, 2) := by decide +kernel
theorem dX8_follow_30 : decode cX8_follow 30 = .ok (.iconst 1, 1) := by decide +kernel
theorem dX8_follow_31 : decode cX8_follow 31 = .ok (.istore 6, 2) := by decide +kernel
theorem dX8_follow_33 : decode cX8_follow 33 = .ok (.iconst 0, 1) := by decide +kernel
theorem dX8_follow_34 : decode cX8_follow 34 = .ok (.istore 7, 2) := by decide +kernel
theorem dX8_follow_36 : decode cX8_follow 36 = .ok (.iload 6, 2) := by decide +kernel
theorem dX8_follow_38 : decode cX8_follow 38 = .ok (.ifCond .eq 128, 3) := by decide +kernel
theorem dX8_follow_41 : decode cX8_follow 41 = .ok (.iload 7, 2) := by decide +kernel
theorem dX8_follow_43 : decode cX8_follow 43 = .ok (.bipush 64, 2) := by decide +kernel
theorem dX8_follow_45 : decode cX8_follow 45 = .ok (.if_icmp .ge 121, 3) := by decide +kernel
theorem dX8_follow_48 : decode cX8_follow 48 = .ok (.aload_n 1, 1) := by decide +kernel
theorem dX8_follow_49 : decode cX8_follow 49 = .ok (.iload_n 2, 1) := by decide +kernel
theorem dX8_follow_50 : decode cX8_follow 50 = .ok (.aload_n 0, 1) := by decide +kernel
theorem dX8_follow_51 : decode cX8_follow 51 = .ok (.getfield 9, 3) := by decide +kernel
theorem dX8_follow_54 : decode cX8_follow 54 = .ok (.iload 7, 2) := by decide +kernel
theorem dX8_follow_56 : decode cX8_follow 56 = .ok (.iaload, 1) := by decide +kernel
theorem dX8_follow_57 : decode cX8_follow 57 = .ok (.aload_n 0, 1) := by decide +kernel
theorem dX8_follow_58 : decode cX8_follow 58 = .ok (.getfield 19, 3) := by decide +kernel
theorem dX8_follow_61 : decode cX8_follow 61 = .ok (.iload 7, 2) := by decide +kernel
theorem dX8_follow_63 : decode cX8_follow 63 = .ok (.invokevirtual 29, 3) := by decide +kernel
theorem dX8_follow_66 : decode cX8_follow 66 = .ok (.istore 8, 2) := by decide +kernel
theorem dX8_follow_68 : decode cX8_follow 68 = .ok (.iload 8, 2) := by decide +kernel
theorem dX8_follow_70 : decode cX8_follow 70 = .ok (.aload_n 0, 1) := by decide +kernel
theorem dX8_follow_71 : decode cX8_follow 71 = .ok (.getfield 9, 3) := by decide +kernel
theorem dX8_follow_74 : decode cX8_follow 74 = .ok (.iload 7, 2) := by decide +kernel
theorem dX8_follow_76 : decode cX8_follow 76 = .ok (.iaload, 1) := by decide +kernel
theorem dX8_follow_77 : decode cX8_follow 77 = .ok (.if_icmp .ne 9, 3) := by decide +kernel
theorem dX8_follow_80 : decode cX8_follow 80 = .ok (.iconst 0, 1) := by decide +kernel
theorem dX8_follow_81 : decode cX8_follow 81 = .ok (.istore 6, 2) := by decide +kernel
theorem dX8_follow_83 : decode cX8_follow 83 = .ok (.goto 77, 3) := by decide +kernel
theorem dX8_follow_86 : decode cX8_follow 86 = .ok (.aload_n 0, 1) := by decide +kernel
theorem dX8_follow_87 : decode cX8_follow 87 = .ok (.iload 7, 2) := by decide +kernel
theorem dX8_follow_89 : decode cX8_follow 89 = .ok (.iconst 1, 1) := by decide +kernel
theorem dX8_follow_90 : decode cX8_follow 90 = .ok (.iadd, 1) := by decide +kernel
theorem dX8_follow_91 : decode cX8_follow 91 = .ok (.putfield 15, 3) := by decide +kernel
theorem dX8_follow_94 : decode cX8_follow 94 = .ok (.aload_n 0, 1) := by decide +kernel
theorem dX8_follow_95 : decode cX8_follow 95 = .ok (.getfield 9, 3) := by decide +kernel
theorem dX8_follow_98 : decode cX8_follow 98 = .ok (.aload_n 0, 1) := by decide +kernel
theorem dX8_follow_99 : decode cX8_follow 99 = .ok (.getfield 15, 3) := by decide +kernel
theorem dX8_follow_102 : decode cX8_follow 102 = .ok (.iload 8, 2) := by decide +kernel
theorem dX8_follow_104 : decode cX8_follow 104 = .ok (.iastore, 1) := by decide +kernel
theorem dX8_follow_105 : decode cX8_follow 105 = .ok (.iload 8, 2) := by decide +kernel
theorem dX8_follow_107 : decode cX8_follow 107 = .ok (.iconst (-1), 1) := by decide +kernel
theorem dX8_follow_108 : decode cX8_follow 108 = .ok (.if_icmp .ne 23, 3) := by decide +kernel
theorem dX8_follow_111 : decode cX8_follow 111 = .ok (.aload_n 0, 1) := by decide +kernel
theorem dX8_follow_112 : decode cX8_follow 112 = .ok (.aload_n 0, 1) := by decide +kernel
theorem dX8_follow_113 : decode cX8_follow 113 = .ok (.getfield 9, 3) := by decide +kernel
theorem dX8_follow_116 : decode cX8_follow 116 = .ok (.iload 7, 2) := by decide +kernel
theorem dX8_follow_118 : decode cX8_follow 118 = .ok (.iaload, 1) := by decide +kernel
theorem dX8_follow_119 : decode cX8_follow 119 = .ok (.invokestatic 35, 3) := by decide +kernel
theorem dX8_follow_122 : decode cX8_follow 122 = .ok (.putfield 22, 3) := by decide +kernel
theorem dX8_follow_125 : decode cX8_follow 125 = .ok (.iconst 0, 1) := by decide +kernel
theorem dX8_follow_126 : decode cX8_follow 126 = .ok (.istore 6, 2) := by decide +kernel
theorem dX8_follow_128 : decode cX8_follow 128 = .ok (.goto 32, 3) := by decide +kernel
theorem dX8_follow_131 : decode cX8_follow 131 = .ok (.iload 5, 2) := by decide +kernel
theorem dX8_follow_133 : decode cX8_follow 133 = .ok (.ifCond .eq 27, 3) := by decide +kernel
theorem dX8_follow_136 : decode cX8_follow 136 = .ok (.aload_n 0, 1) := by decide +kernel
theorem dX8_follow_137 : decode cX8_follow 137 = .ok (.dup, 1) := by decide +kernel
theorem dX8_follow_138 : decode cX8_follow 138 = .ok (.getfield 19, 3) := by decide +kernel
theorem dX8_follow_141 : decode cX8_follow 141 = .ok (.iconst 1, 1) := by decide +kernel
theorem dX8_follow_142 : decode cX8_follow 142 = .ok (.isub, 1) := by decide +kernel
theorem dX8_follow_143 : decode cX8_follow 143 = .ok (.putfield 19, 3) := by decide +kernel
theorem dX8_follow_146 : decode cX8_follow 146 = .ok (.aload_n 0, 1) := by decide +kernel
theorem dX8_follow_147 : decode cX8_follow 147 = .ok (.getfield 19, 3) := by decide +kernel
theorem dX8_follow_150 : decode cX8_follow 150 = .ok (.ifCond .le 7, 3) := by decide +kernel
theorem dX8_follow_153 : decode cX8_follow 153 = .ok (.iconst 1, 1) := by decide +kernel
theorem dX8_follow_154 : decode cX8_follow 154 = .ok (.goto 4, 3) := by decide +kernel
theorem dX8_follow_157 : decode cX8_follow 157 = .ok (.iconst 0, 1) := by decide +kernel
theorem dX8_follow_158 : decode cX8_follow 158 = .ok (.istore 6, 2) := by decide +kernel
theorem dX8_follow_160 : decode cX8_follow 160 = .ok (.iinc 7 1, 3) := by decide +kernel
theorem dX8_follow_163 : decode cX8_follow 163 = .ok (.goto (-127), 3) := by decide +kernel
theorem dX8_follow_166 : decode cX8_follow 166 = .ok (.return_, 1) := by decide +kernel
theorem dX8_isOut_0 : decode cX8_isOut 0 = .ok (.aload_n 0, 1) := by decide +kernel
theorem dX8_isOut_1 : decode cX8_isOut 1 = .ok (.getfield 22, 3) := by decide +kernel
theorem dX8_isOut_4 : decode cX8_isOut 4 = .ok (.iconst (-1), 1) := by decide +kernel
theorem dX8_isOut_5 : decode cX8_isOut 5 = .ok (.if_icmp .eq 7, 3) := by decide +kernel
theorem dX8_isOut_8 : decode cX8_isOut 8 = .ok (.iconst 1, 1) := by decide +kernel
theorem dX8_isOut_9 : decode cX8_isOut 9 = .ok (.goto 4, 3) := by decide +kernel
theorem dX8_isOut_12 : decode cX8_isOut 12 = .ok (.iconst 0, 1) := by decide +kernel
theorem dX8_isOut_13 : decode cX8_isOut 13 = .ok (.ireturn, 1) := by decide +kernel
theorem dX8_lastCell_0 : decode cX8_lastCell 0 = .ok (.aload_n 0, 1) := by decide +kernel
theorem dX8_lastCell_1 : decode cX8_lastCell 1 = .ok (.invokevirtual 39, 3) := by decide +kernel
theorem dX8_lastCell_4 : decode cX8_lastCell 4 = .ok (.ifCond .eq 24, 3) := by decide +kernel
theorem dX8_lastCell_7 : decode cX8_lastCell 7 = .ok (.aload_n 0, 1) := by decide +kernel
theorem dX8_lastCell_8 : decode cX8_lastCell 8 = .ok (.getfield 15, 3) := by decide +kernel
theorem dX8_lastCell_11 : decode cX8_lastCell 11 = .ok (.ifCond .le 17, 3) := by decide +kernel
theorem dX8_lastCell_14 : decode cX8_lastCell 14 = .ok (.aload_n 0, 1) := by decide +kernel
theorem dX8_lastCell_15 : decode cX8_lastCell 15 = .ok (.getfield 9, 3) := by decide +kernel
theorem dX8_lastCell_18 : decode cX8_lastCell 18 = .ok (.aload_n 0, 1) := by decide +kernel
theorem dX8_lastCell_19 : decode cX8_lastCell 19 = .ok (.getfield 15, 3) := by decide +kernel
theorem dX8_lastCell_22 : decode cX8_lastCell 22 = .ok (.iconst 1, 1) := by decide +kernel
theorem dX8_lastCell_23 : decode cX8_lastCell 23 = .ok (.isub, 1) := by decide +kernel
theorem dX8_lastCell_24 : decode cX8_lastCell 24 = .ok (.iaload, 1) := by decide +kernel
theorem dX8_lastCell_25 : decode cX8_lastCell 25 = .ok (.goto 12, 3) := by decide +kernel
theorem dX8_lastCell_28 : decode cX8_lastCell 28 = .ok (.aload_n 0, 1) := by decide +kernel
theorem dX8_lastCell_29 : decode cX8_lastCell 29 = .ok (.getfield 9, 3) := by decide +kernel
theorem dX8_lastCell_32 : decode cX8_lastCell 32 = .ok (.aload_n 0, 1) := by decide +kernel
theorem dX8_lastCell_33 : decode cX8_lastCell 33 = .ok (.getfield 15, 3) := by decide +kernel
theorem dX8_lastCell_36 : decode cX8_lastCell 36 = .ok (.iaload, 1) := by decide +kernel
theorem dX8_lastCell_37 : decode cX8_lastCell 37 = .ok (.ireturn, 1) := by decide +kernel
theorem dX8_cellBehind_0 : decode cX8_cellBehind 0 = .ok (.iload_n 1, 1) := by decide +kernel
theorem dX8_cellBehind_1 : decode cX8_cellBehind 1 = .ok (.aload_n 0, 1) := by decide +kernel
theorem dX8_cellBehind_2 : decode cX8_cellBehind 2 = .ok (.getfield 15, 3) := by decide +kernel
theorem dX8_cellBehind_5 : decode cX8_cellBehind 5 = .ok (.if_icmp .gt 22, 3) := by decide +kernel
theorem dX8_cellBehind_8 : decode cX8_cellBehind 8 = .ok (.aload_n 0, 1) := by decide +kernel
theorem dX8_cellBehind_9 : decode cX8_cellBehind 9 = .ok (.getfield 9, 3) := by decide +kernel
theorem dX8_cellBehind_12 : decode cX8_cellBehind 12 = .ok (.iload_n 1, 1) := by decide +kernel
theorem dX8_cellBehind_13 : decode cX8_cellBehind 13 = .ok (.iaload, 1) := by decide +kernel
theorem dX8_cellBehind_14 : decode cX8_cellBehind 14 = .ok (.iconst (-1), 1) := by decide +kernel
theorem dX8_cellBehind_15 : decode cX8_cellBehind 15 = .ok (.if_icmp .eq 12, 3) := by decide +kernel
theorem dX8_cellBehind_18 : decode cX8_cellBehind 18 = .ok (.aload_n 0, 1) := by decide +kernel
theorem dX8_cellBehind_19 : decode cX8_cellBehind 19 = .ok (.getfield 9, 3) := by decide +kernel
theorem dX8_cellBehind_22 : decode cX8_cellBehind 22 = .ok (.iload_n 1, 1) := by decide +kernel
theorem dX8_cellBehind_23 : decode cX8_cellBehind 23 = .ok (.iaload, 1) := by decide +kernel
theorem dX8_cellBehind_24 : decode cX8_cellBehind 24 = .ok (.goto 5, 3) := by decide +kernel
theorem dX8_cellBehind_27 : decode cX8_cellBehind 27 = .ok (.bipush (-2), 2) := by decide +kernel
theorem dX8_cellBehind_29 : decode cX8_cellBehind 29 = .ok (.ireturn, 1) := by decide +kernel
theorem dX9_init_0 : decode cX9_init 0 = .ok (.aload_n 0, 1) := by decide +kernel
theorem dX9_init_1 : decode cX9_init 1 = .ok (.invokespecial 3, 3) := by decide +kernel
theorem dX9_init_4 : decode cX9_init 4 = .ok (.aload_n 0, 1) := by decide +kernel
theorem dX9_init_5 : decode cX9_init 5 = .ok (.sipush 192, 3) := by decide +kernel
theorem dX9_init_8 : decode cX9_init 8 = .ok (.newarray .int, 2) := by decide +kernel
theorem dX9_init_10 : decode cX9_init 10 = .ok (.putfield 9, 3) := by decide +kernel
theorem dX9_init_13 : decode cX9_init 13 = .ok (.return_, 1) := by decide +kernel
theorem dX9_reckon_0 : decode cX9_reckon 0 = .ok (.sipush 191, 3) := by decide +kernel
theorem dX9_reckon_3 : decode cX9_reckon 3 = .ok (.istore_n 3, 1) := by decide +kernel
theorem dX9_reckon_4 : decode cX9_reckon 4 = .ok (.iload_n 3, 1) := by decide +kernel
theorem dX9_reckon_5 : decode cX9_reckon 5 = .ok (.ifCond .lt 33, 3) := by decide +kernel
theorem dX9_reckon_8 : decode cX9_reckon 8 = .ok (.aload_n 0, 1) := by decide +kernel
theorem dX9_reckon_9 : decode cX9_reckon 9 = .ok (.getfield 9, 3) := by decide +kernel
theorem dX9_reckon_12 : decode cX9_reckon 12 = .ok (.iload_n 3, 1) := by decide +kernel
theorem dX9_reckon_13 : decode cX9_reckon 13 = .ok (.iload_n 3, 1) := by decide +kernel
theorem dX9_reckon_14 : decode cX9_reckon 14 = .ok (.invokestatic 15, 3) := by decide +kernel
theorem dX9_reckon_17 : decode cX9_reckon 17 = .ok (.ifCond .eq 7, 3) := by decide +kernel
theorem dX9_reckon_20 : decode cX9_reckon 20 = .ok (.iconst 0, 1) := by decide +kernel
theorem dX9_reckon_21 : decode cX9_reckon 21 = .ok (.goto 10, 3) := by decide +kernel
theorem dX9_reckon_24 : decode cX9_reckon 24 = .ok (.aload_n 0, 1) := by decide +kernel
theorem dX9_reckon_25 : decode cX9_reckon 25 = .ok (.aload_n 1, 1) := by decide +kernel
theorem dX9_reckon_26 : decode cX9_reckon 26 = .ok (.iload_n 3, 1) := by decide +kernel
theorem dX9_reckon_27 : decode cX9_reckon 27 = .ok (.iload_n 2, 1) := by decide +kernel
theorem dX9_reckon_28 : decode cX9_reckon 28 = .ok (.invokevirtual 19, 3) := by decide +kernel
theorem dX9_reckon_31 : decode cX9_reckon 31 = .ok (.iastore, 1) := by decide +kernel
theorem dX9_reckon_32 : decode cX9_reckon 32 = .ok (.iinc 3 (-1), 3) := by decide +kernel
theorem dX9_reckon_35 : decode cX9_reckon 35 = .ok (.goto (-31), 3) := by decide +kernel
theorem dX9_reckon_38 : decode cX9_reckon 38 = .ok (.return_, 1) := by decide +kernel
theorem dX9_leastBelow_0 : decode cX9_leastBelow 0 = .ok (.aload_n 0, 1) := by decide +kernel
theorem dX9_leastBelow_1 : decode cX9_leastBelow 1 = .ok (.aload_n 1, 1) := by decide +kernel
theorem dX9_leastBelow_2 : decode cX9_leastBelow 2 = .ok (.iload_n 2, 1) := by decide +kernel
theorem dX9_leastBelow_3 : decode cX9_leastBelow 3 = .ok (.iconst 0, 1) := by decide +kernel
theorem dX9_leastBelow_4 : decode cX9_leastBelow 4 = .ok (.invokestatic 23, 3) := by decide +kernel
theorem dX9_leastBelow_7 : decode cX9_leastBelow 7 = .ok (.iload_n 3, 1) := by decide +kernel
theorem dX9_leastBelow_8 : decode cX9_leastBelow 8 = .ok (.invokevirtual 27, 3) := by decide +kernel
theorem dX9_leastBelow_11 : decode cX9_leastBelow 11 = .ok (.istore 4, 2) := by decide +kernel
theorem dX9_leastBelow_13 : decode cX9_leastBelow 13 = .ok (.iconst 1, 1) := by decide +kernel
theorem dX9_leastBelow_14 : decode cX9_leastBelow 14 = .ok (.istore 5, 2) := by decide +kernel
theorem dX9_leastBelow_16 : decode cX9_leastBelow 16 = .ok (.iload 5, 2) := by decide +kernel
theorem dX9_leastBelow_18 : decode cX9_leastBelow 18 = .ok (.iconst 3, 1) := by decide +kernel
theorem dX9_leastBelow_19 : decode cX9_leastBelow 19 = .ok (.if_icmp .ge 39, 3) := by decide +kernel
theorem dX9_leastBelow_22 : decode cX9_leastBelow 22 = .ok (.iload_n 2, 1) := by decide +kernel
theorem dX9_leastBelow_23 : decode cX9_leastBelow 23 = .ok (.iload 5, 2) := by decide +kernel
theorem dX9_leastBelow_25 : decode cX9_leastBelow 25 = .ok (.invokestatic 23, 3) := by decide +kernel
theorem dX9_leastBelow_28 : decode cX9_leastBelow 28 = .ok (.istore 6, 2) := by decide +kernel
theorem dX9_leastBelow_30 : decode cX9_leastBelow 30 = .ok (.iload 6, 2) := by decide +kernel
theorem dX9_leastBelow_32 : decode cX9_leastBelow 32 = .ok (.bipush (-2), 2) := by decide +kernel
theorem dX9_leastBelow_34 : decode cX9_leastBelow 34 = .ok (.if_icmp .eq 18, 3) := by decide +kernel
theorem dX9_leastBelow_37 : decode cX9_leastBelow 37 = .ok (.iload 4, 2) := by decide +kernel
theorem dX9_leastBelow_39 : decode cX9_leastBelow 39 = .ok (.aload_n 0, 1) := by decide +kernel
theorem dX9_leastBelow_40 : decode cX9_leastBelow 40 = .ok (.aload_n 1, 1) := by decide +kernel
theorem dX9_leastBelow_41 : decode cX9_leastBelow 41 = .ok (.iload 6, 2) := by decide +kernel
theorem dX9_leastBelow_43 : decode cX9_leastBelow 43 = .ok (.iload_n 3, 1) := by decide +kernel
theorem dX9_leastBelow_44 : decode cX9_leastBelow 44 = .ok (.invokevirtual 27, 3) := by decide +kernel
theorem dX9_leastBelow_47 : decode cX9_leastBelow 47 = .ok (.invokestatic 30, 3) := by decide +kernel
theorem dX9_leastBelow_50 : decode cX9_leastBelow 50 = .ok (.istore 4, 2) := by decide +kernel
theorem dX9_leastBelow_52 : decode cX9_leastBelow 52 = .ok (.iinc 5 1, 3) := by decide +kernel
theorem dX9_leastBelow_55 : decode cX9_leastBelow 55 = .ok (.goto (-39), 3) := by decide +kernel
theorem dX9_leastBelow_58 : decode cX9_leastBelow 58 = .ok (.iload 4, 2) := by decide +kernel
theorem dX9_leastBelow_60 : decode cX9_leastBelow 60 = .ok (.ireturn, 1) := by decide +kernel
theorem dX9_costOver_0 : decode cX9_costOver 0 = .ok (.aload_n 1, 1) := by decide +kernel
theorem dX9_costOver_1 : decode cX9_costOver 1 = .ok (.iload_n 2, 1) := by decide +kernel
theorem dX9_costOver_2 : decode cX9_costOver 2 = .ok (.invokevirtual 35, 3) := by decide +kernel
theorem dX9_costOver_5 : decode cX9_costOver 5 = .ok (.istore 4, 2) := by decide +kernel
theorem dX9_costOver_7 : decode cX9_costOver 7 = .ok (.iload_n 3, 1) := by decide +kernel
theorem dX9_costOver_8 : decode cX9_costOver 8 = .ok (.ifCond .eq 15, 3) := by decide +kernel
theorem dX9_costOver_11 : decode cX9_costOver 11 = .ok (.iload 4, 2) := by decide +kernel
theorem dX9_costOver_13 : decode cX9_costOver 13 = .ok (.aload_n 0, 1) := by decide +kernel
theorem dX9_costOver_14 : decode cX9_costOver 14 = .ok (.getfield 9, 3) := by decide +kernel
theorem dX9_costOver_17 : decode cX9_costOver 17 = .ok (.iload_n 2, 1) := by decide +kernel
theorem dX9_costOver_18 : decode cX9_costOver 18 = .ok (.iaload, 1) := by decide +kernel
theorem dX9_costOver_19 : decode cX9_costOver 19 = .ok (.iadd, 1) := by decide +kernel
theorem dX9_costOver_20 : decode cX9_costOver 20 = .ok (.goto 14, 3) := by decide +kernel
theorem dX9_costOver_23 : decode cX9_costOver 23 = .ok (.iload 4, 2) := by decide +kernel
theorem dX9_costOver_25 : decode cX9_costOver 25 = .ok (.aload_n 0, 1) := by decide +kernel
theorem dX9_costOver_26 : decode cX9_costOver 26 = .ok (.getfield 9, 3) := by decide +kernel
theorem dX9_costOver_29 : decode cX9_costOver 29 = .ok (.iload_n 2, 1) := by decide +kernel
theorem dX9_costOver_30 : decode cX9_costOver 30 = .ok (.iaload, 1) := by decide +kernel
theorem dX9_costOver_31 : decode cX9_costOver 31 = .ok (.invokestatic 41, 3) := by decide +kernel
theorem dX9_costOver_34 : decode cX9_costOver 34 = .ok (.ireturn, 1) := by decide +kernel
theorem dX9_leastStart_0 : decode cX9_leastStart 0 = .ok (.iconst 0, 1) := by decide +kernel
theorem dX9_leastStart_1 : decode cX9_leastStart 1 = .ok (.istore_n 1, 1) := by decide +kernel
theorem dX9_leastStart_2 : decode cX9_leastStart 2 = .ok (.iconst 1, 1) := by decide +kernel
theorem dX9_leastStart_3 : decode cX9_leastStart 3 = .ok (.istore_n 2, 1) := by decide +kernel
theorem dX9_leastStart_4 : decode cX9_leastStart 4 = .ok (.iload_n 2, 1) := by decide +kernel
theorem dX9_leastStart_5 : decode cX9_leastStart 5 = .ok (.bipush 12, 2) := by decide +kernel
theorem dX9_leastStart_7 : decode cX9_leastStart 7 = .ok (.if_icmp .ge 26, 3) := by decide +kernel
theorem dX9_leastStart_10 : decode cX9_leastStart 10 = .ok (.aload_n 0, 1) := by decide +kernel
theorem dX9_leastStart_11 : decode cX9_leastStart 11 = .ok (.getfield 9, 3) := by decide +kernel
theorem dX9_leastStart_14 : decode cX9_leastStart 14 = .ok (.iload_n 2, 1) := by decide +kernel
theorem dX9_leastStart_15 : decode cX9_leastStart 15 = .ok (.iaload, 1) := by decide +kernel
theorem dX9_leastStart_16 : decode cX9_leastStart 16 = .ok (.aload_n 0, 1) := by decide +kernel
theorem dX9_leastStart_17 : decode cX9_leastStart 17 = .ok (.getfield 9, 3) := by decide +kernel
theorem dX9_leastStart_20 : decode cX9_leastStart 20 = .ok (.iload_n 1, 1) := by decide +kernel
theorem dX9_leastStart_21 : decode cX9_leastStart 21 = .ok (.iaload, 1) := by decide +kernel
theorem dX9_leastStart_22 : decode cX9_leastStart 22 = .ok (.if_icmp .ge 5, 3) := by decide +kernel
theorem dX9_leastStart_25 : decode cX9_leastStart 25 = .ok (.iload_n 2, 1) := by decide +kernel
theorem dX9_leastStart_26 : decode cX9_leastStart 26 = .ok (.istore_n 1, 1) := by decide +kernel
theorem dX9_leastStart_27 : decode cX9_leastStart 27 = .ok (.iinc 2 1, 3) := by decide +kernel
theorem dX9_leastStart_30 : decode cX9_leastStart 30 = .ok (.goto (-26), 3) := by decide +kernel
theorem dX9_leastStart_33 : decode cX9_leastStart 33 = .ok (.iload_n 1, 1) := by decide +kernel
theorem dX9_leastStart_34 : decode cX9_leastStart 34 = .ok (.ireturn, 1) := by decide +kernel
theorem dX9_endFrom_0 : decode cX9_endFrom 0 = .ok (.iload_n 2, 1) := by decide +kernel
theorem dX9_endFrom_1 : decode cX9_endFrom 1 = .ok (.istore_n 3, 1) := by decide +kernel
theorem dX9_endFrom_2 : decode cX9_endFrom 2 = .ok (.iconst 0, 1) := by decide +kernel
theorem dX9_endFrom_3 : decode cX9_endFrom 3 = .ok (.istore 4, 2) := by decide +kernel
theorem dX9_endFrom_5 : decode cX9_endFrom 5 = .ok (.iload 4, 2) := by decide +kernel
theorem dX9_endFrom_7 : decode cX9_endFrom 7 = .ok (.bipush 15, 2) := by decide +kernel
theorem dX9_endFrom_9 : decode cX9_endFrom 9 = .ok (.if_icmp .ge 16, 3) := by decide +kernel
theorem dX9_endFrom_12 : decode cX9_endFrom 12 = .ok (.aload_n 0, 1) := by decide +kernel
theorem dX9_endFrom_13 : decode cX9_endFrom 13 = .ok (.aload_n 1, 1) := by decide +kernel
theorem dX9_endFrom_14 : decode cX9_endFrom 14 = .ok (.iload_n 3, 1) := by decide +kernel
theorem dX9_endFrom_15 : decode cX9_endFrom 15 = .ok (.invokevirtual 44, 3) := by decide +kernel
theorem dX9_endFrom_18 : decode cX9_endFrom 18 = .ok (.istore_n 3, 1) := by decide +kernel
theorem dX9_endFrom_19 : decode cX9_endFrom 19 = .ok (.iinc 4 1, 3) := by decide +kernel
theorem dX9_endFrom_22 : decode cX9_endFrom 22 = .ok (.goto (-17), 3) := by decide +kernel
theorem dX9_endFrom_25 : decode cX9_endFrom 25 = .ok (.iload_n 3, 1) := by decide +kernel
theorem dX9_endFrom_26 : decode cX9_endFrom 26 = .ok (.invokestatic 48, 3) := by decide +kernel
theorem dX9_endFrom_29 : decode cX9_endFrom 29 = .ok (.ireturn, 1) := by decide +kernel
theorem dX9_downOn_0 : decode cX9_downOn 0 = .ok (.iconst 0, 1) := by decide +kernel
theorem dX9_downOn_1 : decode cX9_downOn 1 = .ok (.istore_n 3, 1) := by decide +kernel
theorem dX9_downOn_2 : decode cX9_downOn 2 = .ok (.iload_n 3, 1) := by decide +kernel
theorem dX9_downOn_3 : decode cX9_downOn 3 = .ok (.iconst 3, 1) := by decide +kernel
theorem dX9_downOn_4 : decode cX9_downOn 4 = .ok (.if_icmp .ge 43, 3) := by decide +kernel
theorem dX9_downOn_7 : decode cX9_downOn 7 = .ok (.iload_n 2, 1) := by decide +kernel
theorem dX9_downOn_8 : decode cX9_downOn 8 = .ok (.iload_n 3, 1) := by decide +kernel
theorem dX9_downOn_9 : decode cX9_downOn 9 = .ok (.invokestatic 23, 3) := by decide +kernel
theorem dX9_downOn_12 : decode cX9_downOn 12 = .ok (.istore 4, 2) := by decide +kernel
theorem dX9_downOn_14 : decode cX9_downOn 14 = .ok (.iload 4, 2) := by decide +kernel
theorem dX9_downOn_16 : decode cX9_downOn 16 = .ok (.bipush (-2), 2) := by decide +kernel
theorem dX9_downOn_18 : decode cX9_downOn 18 = .ok (.if_icmp .eq 23, 3) := by decide +kernel
theorem dX9_downOn_21 : decode cX9_downOn 21 = .ok (.aload_n 0, 1) := by decide +kernel
theorem dX9_downOn_22 : decode cX9_downOn 22 = .ok (.aload_n 1, 1) := by decide +kernel
theorem dX9_downOn_23 : decode cX9_downOn 23 = .ok (.iload 4, 2) := by decide +kernel
theorem dX9_downOn_25 : decode cX9_downOn 25 = .ok (.iconst 1, 1) := by decide +kernel
theorem dX9_downOn_26 : decode cX9_downOn 26 = .ok (.invokevirtual 27, 3) := by decide +kernel
theorem dX9_downOn_29 : decode cX9_downOn 29 = .ok (.aload_n 0, 1) := by decide +kernel
theorem dX9_downOn_30 : decode cX9_downOn 30 = .ok (.getfield 9, 3) := by decide +kernel
theorem dX9_downOn_33 : decode cX9_downOn 33 = .ok (.iload_n 2, 1) := by decide +kernel
theorem dX9_downOn_34 : decode cX9_downOn 34 = .ok (.iaload, 1) := by decide +kernel
theorem dX9_downOn_35 : decode cX9_downOn 35 = .ok (.if_icmp .ne 6, 3) := by decide +kernel
theorem dX9_downOn_38 : decode cX9_downOn 38 = .ok (.iload 4, 2) := by decide +kernel
theorem dX9_downOn_40 : decode cX9_downOn 40 = .ok (.ireturn, 1) := by decide +kernel
theorem dX9_downOn_41 : decode cX9_downOn 41 = .ok (.iinc 3 1, 3) := by decide +kernel
theorem dX9_downOn_44 : decode cX9_downOn 44 = .ok (.goto (-42), 3) := by decide +kernel
theorem dX9_downOn_47 : decode cX9_downOn 47 = .ok (.iload_n 2, 1) := by decide +kernel
theorem dX9_downOn_48 : decode cX9_downOn 48 = .ok (.ireturn, 1) := by decide +kernel
theorem dX10_init_0 : decode cX10_init 0 = .ok (.aload_n 0, 1) := by decide +kernel
theorem dX10_init_1 : decode cX10_init 1 = .ok (.invokespecial 3, 3) := by decide +kernel
theorem dX10_init_4 : decode cX10_init 4 = .ok (.aload_n 0, 1) := by decide +kernel
theorem dX10_init_5 : decode cX10_init 5 = .ok (.new 9, 3) := by decide +kernel
theorem dX10_init_8 : decode cX10_init 8 = .ok (.dup, 1) := by decide +kernel
theorem dX10_init_9 : decode cX10_init 9 = .ok (.invokespecial 11, 3) := by decide +kernel
theorem dX10_init_12 : decode cX10_init 12 = .ok (.putfield 12, 3) := by decide +kernel
theorem dX10_init_15 : decode cX10_init 15 = .ok (.aload_n 0, 1) := by decide +kernel
theorem dX10_init_16 : decode cX10_init 16 = .ok (.new 16, 3) := by decide +kernel
theorem dX10_init_19 : decode cX10_init 19 = .ok (.dup, 1) := by decide +kernel
theorem dX10_init_20 : decode cX10_init 20 = .ok (.invokespecial 18, 3) := by decide +kernel
theorem dX10_init_23 : decode cX10_init 23 = .ok (.putfield 19, 3) := by decide +kernel
theorem dX10_init_26 : decode cX10_init 26 = .ok (.aload_n 0, 1) := by decide +kernel
theorem dX10_init_27 : decode cX10_init 27 = .ok (.new 16, 3) := by decide +kernel
theorem dX10_init_30 : decode cX10_init 30 = .ok (.dup, 1) := by decide +kernel
theorem dX10_init_31 : decode cX10_init 31 = .ok (.invokespecial 18, 3) := by decide +kernel
theorem dX10_init_34 : decode cX10_init 34 = .ok (.putfield 23, 3) := by decide +kernel
theorem dX10_init_37 : decode cX10_init 37 = .ok (.aload_n 0, 1) := by decide +kernel
theorem dX10_init_38 : decode cX10_init 38 = .ok (.iconst 0, 1) := by decide +kernel
theorem dX10_init_39 : decode cX10_init 39 = .ok (.putfield 26, 3) := by decide +kernel
theorem dX10_init_42 : decode cX10_init 42 = .ok (.aload_n 0, 1) := by decide +kernel
theorem dX10_init_43 : decode cX10_init 43 = .ok (.new 30, 3) := by decide +kernel
theorem dX10_init_46 : decode cX10_init 46 = .ok (.dup, 1) := by decide +kernel
theorem dX10_init_47 : decode cX10_init 47 = .ok (.invokespecial 32, 3) := by decide +kernel
theorem dX10_init_50 : decode cX10_init 50 = .ok (.putfield 33, 3) := by decide +kernel
theorem dX10_init_53 : decode cX10_init 53 = .ok (.aload_n 0, 1) := by decide +kernel
theorem dX10_init_54 : decode cX10_init 54 = .ok (.new 37, 3) := by decide +kernel
theorem dX10_init_57 : decode cX10_init 57 = .ok (.dup, 1) := by decide +kernel
theorem dX10_init_58 : decode cX10_init 58 = .ok (.aload_n 0, 1) := by decide +kernel
theorem dX10_init_59 : decode cX10_init 59 = .ok (.getfield 33, 3) := by decide +kernel
theorem dX10_init_62 : decode cX10_init 62 = .ok (.invokespecial 39, 3) := by decide +kernel
theorem dX10_init_65 : decode cX10_init 65 = .ok (.putfield 42, 3) := by decide +kernel
theorem dX10_init_68 : decode cX10_init 68 = .ok (.aload_n 0, 1) := by decide +kernel
theorem dX10_init_69 : decode cX10_init 69 = .ok (.iconst 4, 1) := by decide +kernel
theorem dX10_init_70 : decode cX10_init 70 = .ok (.anewarray 46, 3) := by decide +kernel
theorem dX10_init_73 : decode cX10_init 73 = .ok (.putfield 48, 3) := by decide +kernel
theorem dX10_init_76 : decode cX10_init 76 = .ok (.iconst 0, 1) := by decide +kernel
theorem dX10_init_77 : decode cX10_init 77 = .ok (.istore_n 1, 1) := by decide +kernel
theorem dX10_init_78 : decode cX10_init 78 = .ok (.iload_n 1, 1) := by decide +kernel
theorem dX10_init_79 : decode cX10_init 79 = .ok (.iconst 4, 1) := by decide +kernel
theorem dX10_init_80 : decode cX10_init 80 = .ok (.if_icmp .ge 22, 3) := by decide +kernel
theorem dX10_init_83 : decode cX10_init 83 = .ok (.aload_n 0, 1) := by decide +kernel
theorem dX10_init_84 : decode cX10_init 84 = .ok (.getfield 48, 3) := by decide +kernel
theorem dX10_init_87 : decode cX10_init 87 = .ok (.iload_n 1, 1) := by decide +kernel
theorem dX10_init_88 : decode cX10_init 88 = .ok (.new 46, 3) := by decide +kernel
theorem dX10_init_91 : decode cX10_init 91 = .ok (.dup, 1) := by decide +kernel
theorem dX10_init_92 : decode cX10_init 92 = .ok (.invokespecial 52, 3) := by decide +kernel
theorem dX10_init_95 : decode cX10_init 95 = .ok (.aastore, 1) := by decide +kernel
theorem dX10_init_96 : decode cX10_init 96 = .ok (.iinc 1 1, 3) := by decide +kernel
theorem dX10_init_99 : decode cX10_init 99 = .ok (.goto (-21), 3) := by decide +kernel
theorem dX10_init_102 : decode cX10_init 102 = .ok (.aload_n 0, 1) := by decide +kernel
theorem dX10_init_103 : decode cX10_init 103 = .ok (.new 53, 3) := by decide +kernel
theorem dX10_init_106 : decode cX10_init 106 = .ok (.dup, 1) := by decide +kernel
theorem dX10_init_107 : decode cX10_init 107 = .ok (.invokespecial 55, 3) := by decide +kernel
theorem dX10_init_110 : decode cX10_init 110 = .ok (.putfield 56, 3) := by decide +kernel
theorem dX10_init_113 : decode cX10_init 113 = .ok (.aload_n 0, 1) := by decide +kernel
theorem dX10_init_114 : decode cX10_init 114 = .ok (.new 60, 3) := by decide +kernel
theorem dX10_init_117 : decode cX10_init 117 = .ok (.dup, 1) := by decide +kernel
theorem dX10_init_118 : decode cX10_init 118 = .ok (.invokespecial 62, 3) := by decide +kernel
theorem dX10_init_121 : decode cX10_init 121 = .ok (.putfield 63, 3) := by decide +kernel
theorem dX10_init_124 : decode cX10_init 124 = .ok (.aload_n 0, 1) := by decide +kernel
theorem dX10_init_125 : decode cX10_init 125 = .ok (.new 60, 3) := by decide +kernel
theorem dX10_init_128 : decode cX10_init 128 = .ok (.dup, 1) := by decide +kernel
theorem dX10_init_129 : decode cX10_init 129 = .ok (.invokespecial 62, 3) := by decide +kernel
theorem dX10_init_132 : decode cX10_init 132 = .ok (.putfield 67, 3) := by decide +kernel
theorem dX10_init_135 : decode cX10_init 135 = .ok (.aload_n 0, 1) := by decide +kernel
theorem dX10_init_136 : decode cX10_init 136 = .ok (.new 70, 3) := by decide +kernel
theorem dX10_init_139 : decode cX10_init 139 = .ok (.dup, 1) := by decide +kernel
theorem dX10_init_140 : decode cX10_init 140 = .ok (.invokespecial 72, 3) := by decide +kernel
theorem dX10_init_143 : decode cX10_init 143 = .ok (.putfield 73, 3) := by decide +kernel
theorem dX10_init_146 : decode cX10_init 146 = .ok (.return_, 1) := by decide +kernel
theorem dX10_cellOf_0 : decode cX10_cellOf 0 = .ok (.iload_n 1, 1) := by decide +kernel
theorem dX10_cellOf_1 : decode cX10_cellOf 1 = .ok (.invokestatic 77, 3) := by decide +kernel
theorem dX10_cellOf_4 : decode cX10_cellOf 4 = .ok (.ifCond .eq 12, 3) := by decide +kernel
theorem dX10_cellOf_7 : decode cX10_cellOf 7 = .ok (.iload_n 2, 1) := by decide +kernel
theorem dX10_cellOf_8 : decode cX10_cellOf 8 = .ok (.iconst 0, 1) := by decide +kernel
theorem dX10_cellOf_9 : decode cX10_cellOf 9 = .ok (.iconst 3, 1) := by decide +kernel
theorem dX10_cellOf_10 : decode cX10_cellOf 10 = .ok (.invokestatic 81, 3) := by decide +kernel
theorem dX10_cellOf_13 : decode cX10_cellOf 13 = .ok (.ifCond .ne 12, 3) := by decide +kernel
theorem dX10_cellOf_16 : decode cX10_cellOf 16 = .ok (.aload_n 0, 1) := by decide +kernel
theorem dX10_cellOf_17 : decode cX10_cellOf 17 = .ok (.getfield 12, 3) := by decide +kernel
theorem dX10_cellOf_20 : decode cX10_cellOf 20 = .ok (.iconst 0, 1) := by decide +kernel
theorem dX10_cellOf_21 : decode cX10_cellOf 21 = .ok (.invokevirtual 85, 3) := by decide +kernel
theorem dX10_cellOf_24 : decode cX10_cellOf 24 = .ok (.ireturn, 1) := by decide +kernel
theorem dX10_cellOf_25 : decode cX10_cellOf 25 = .ok (.iload_n 2, 1) := by decide +kernel
theorem dX10_cellOf_26 : decode cX10_cellOf 26 = .ok (.tableswitch 64 0 2 #[26, 39, 52], 26) := by decide +kernel
theorem dX10_cellOf_52 : decode cX10_cellOf 52 = .ok (.aload_n 0, 1) := by decide +kernel
theorem dX10_cellOf_53 : decode cX10_cellOf 53 = .ok (.getfield 19, 3) := by decide +kernel
theorem dX10_cellOf_56 : decode cX10_cellOf 56 = .ok (.getfield 89, 3) := by decide +kernel
theorem dX10_cellOf_59 : decode cX10_cellOf 59 = .ok (.getfield 92, 3) := by decide +kernel
theorem dX10_cellOf_62 : decode cX10_cellOf 62 = .ok (.iload_n 1, 1) := by decide +kernel
theorem dX10_cellOf_63 : decode cX10_cellOf 63 = .ok (.iaload, 1) := by decide +kernel
theorem dX10_cellOf_64 : decode cX10_cellOf 64 = .ok (.ireturn, 1) := by decide +kernel
theorem dX10_cellOf_65 : decode cX10_cellOf 65 = .ok (.aload_n 0, 1) := by decide +kernel
theorem dX10_cellOf_66 : decode cX10_cellOf 66 = .ok (.getfield 19, 3) := by decide +kernel
theorem dX10_cellOf_69 : decode cX10_cellOf 69 = .ok (.getfield 89, 3) := by decide +kernel
theorem dX10_cellOf_72 : decode cX10_cellOf 72 = .ok (.getfield 96, 3) := by decide +kernel
theorem dX10_cellOf_75 : decode cX10_cellOf 75 = .ok (.iload_n 1, 1) := by decide +kernel
theorem dX10_cellOf_76 : decode cX10_cellOf 76 = .ok (.iaload, 1) := by decide +kernel
theorem dX10_cellOf_77 : decode cX10_cellOf 77 = .ok (.ireturn, 1) := by decide +kernel
theorem dX10_cellOf_78 : decode cX10_cellOf 78 = .ok (.aload_n 0, 1) := by decide +kernel
theorem dX10_cellOf_79 : decode cX10_cellOf 79 = .ok (.getfield 19, 3) := by decide +kernel
theorem dX10_cellOf_82 : decode cX10_cellOf 82 = .ok (.getfield 89, 3) := by decide +kernel
theorem dX10_cellOf_85 : decode cX10_cellOf 85 = .ok (.iload_n 1, 1) := by decide +kernel
theorem dX10_cellOf_86 : decode cX10_cellOf 86 = .ok (.invokevirtual 99, 3) := by decide +kernel
theorem dX10_cellOf_89 : decode cX10_cellOf 89 = .ok (.ireturn, 1) := by decide +kernel
theorem dX10_cellOf_90 : decode cX10_cellOf 90 = .ok (.aload_n 0, 1) := by decide +kernel
theorem dX10_cellOf_91 : decode cX10_cellOf 91 = .ok (.getfield 19, 3) := by decide +kernel
theorem dX10_cellOf_94 : decode cX10_cellOf 94 = .ok (.getfield 102, 3) := by decide +kernel
theorem dX10_cellOf_97 : decode cX10_cellOf 97 = .ok (.iload_n 1, 1) := by decide +kernel
theorem dX10_cellOf_98 : decode cX10_cellOf 98 = .ok (.invokevirtual 106, 3) := by decide +kernel
theorem dX10_cellOf_101 : decode cX10_cellOf 101 = .ok (.ireturn, 1) := by decide +kernel
theorem dX10_dirt_0 : decode cX10_dirt 0 = .ok (.iload_n 1, 1) := by decide +kernel
theorem dX10_dirt_1 : decode cX10_dirt 1 = .ok (.invokestatic 77, 3) := by decide +kernel
theorem dX10_dirt_4 : decode cX10_dirt 4 = .ok (.ifCond .eq 13, 3) := by decide +kernel
theorem dX10_dirt_7 : decode cX10_dirt 7 = .ok (.iload_n 2, 1) := by decide +kernel
theorem dX10_dirt_8 : decode cX10_dirt 8 = .ok (.iconst 0, 1) := by decide +kernel
theorem dX10_dirt_9 : decode cX10_dirt 9 = .ok (.bipush 9, 2) := by decide +kernel
theorem dX10_dirt_11 : decode cX10_dirt 11 = .ok (.invokestatic 81, 3) := by decide +kernel
theorem dX10_dirt_14 : decode cX10_dirt 14 = .ok (.ifCond .ne 12, 3) := by decide +kernel
theorem dX10_dirt_17 : decode cX10_dirt 17 = .ok (.aload_n 0, 1) := by decide +kernel
theorem dX10_dirt_18 : decode cX10_dirt 18 = .ok (.getfield 12, 3) := by decide +kernel
theorem dX10_dirt_21 : decode cX10_dirt 21 = .ok (.iconst 0, 1) := by decide +kernel
theorem dX10_dirt_22 : decode cX10_dirt 22 = .ok (.invokevirtual 85, 3) := by decide +kernel
theorem dX10_dirt_25 : decode cX10_dirt 25 = .ok (.ireturn, 1) := by decide +kernel
theorem dX10_dirt_26 : decode cX10_dirt 26 = .ok (.aload_n 0, 1) := by decide +kernel
theorem dX10_dirt_27 : decode cX10_dirt 27 = .ok (.getfield 19, 3) := by decide +kernel
theorem dX10_dirt_30 : decode cX10_dirt 30 = .ok (.getfield 89, 3) := by decide +kernel
theorem dX10_dirt_33 : decode cX10_dirt 33 = .ok (.getfield 92, 3) := by decide +kernel
theorem dX10_dirt_36 : decode cX10_dirt 36 = .ok (.iload_n 1, 1) := by decide +kernel
theorem dX10_dirt_37 : decode cX10_dirt 37 = .ok (.iaload, 1) := by decide +kernel
theorem dX10_dirt_38 : decode cX10_dirt 38 = .ok (.istore_n 3, 1) := by decide +kernel
theorem dX10_dirt_39 : decode cX10_dirt 39 = .ok (.aload_n 0, 1) := by decide +kernel
theorem dX10_dirt_40 : decode cX10_dirt 40 = .ok (.getfield 19, 3) := by decide +kernel
theorem dX10_dirt_43 : decode cX10_dirt 43 = .ok (.getfield 89, 3) := by decide +kernel
theorem dX10_dirt_46 : decode cX10_dirt 46 = .ok (.getfield 92, 3) := by decide +kernel
theorem dX10_dirt_49 : decode cX10_dirt 49 = .ok (.iload_n 1, 1) := by decide +kernel
theorem dX10_dirt_50 : decode cX10_dirt 50 = .ok (.iload_n 2, 1) := by decide +kernel
theorem dX10_dirt_51 : decode cX10_dirt 51 = .ok (.iastore, 1) := by decide +kernel
theorem dX10_dirt_52 : decode cX10_dirt 52 = .ok (.iload_n 3, 1) := by decide +kernel
theorem dX10_dirt_53 : decode cX10_dirt 53 = .ok (.ireturn, 1) := by decide +kernel
theorem dX10_set_0 : decode cX10_set 0 = .ok (.iload_n 1, 1) := by decide +kernel
theorem dX10_set_1 : decode cX10_set 1 = .ok (.iload_n 2, 1) := by decide +kernel
theorem dX10_set_2 : decode cX10_set 2 = .ok (.invokestatic 111, 3) := by decide +kernel
theorem dX10_set_5 : decode cX10_set 5 = .ok (.ifCond .ne 12, 3) := by decide +kernel
theorem dX10_set_8 : decode cX10_set 8 = .ok (.aload_n 0, 1) := by decide +kernel
theorem dX10_set_9 : decode cX10_set 9 = .ok (.getfield 12, 3) := by decide +kernel
theorem dX10_set_12 : decode cX10_set 12 = .ok (.iconst 0, 1) := by decide +kernel
theorem dX10_set_13 : decode cX10_set 13 = .ok (.invokevirtual 85, 3) := by decide +kernel
theorem dX10_set_16 : decode cX10_set 16 = .ok (.ireturn, 1) := by decide +kernel
theorem dX10_set_17 : decode cX10_set 17 = .ok (.aload_n 0, 1) := by decide +kernel
theorem dX10_set_18 : decode cX10_set 18 = .ok (.getfield 19, 3) := by decide +kernel
theorem dX10_set_21 : decode cX10_set 21 = .ok (.getfield 89, 3) := by decide +kernel
theorem dX10_set_24 : decode cX10_set 24 = .ok (.astore_n 3, 1) := by decide +kernel
theorem dX10_set_25 : decode cX10_set 25 = .ok (.iload_n 1, 1) := by decide +kernel
theorem dX10_set_26 : decode cX10_set 26 = .ok (.lookupswitch 54 #[(0, 26), (1, 40)], 26) := by decide +kernel
theorem dX10_set_52 : decode cX10_set 52 = .ok (.aload_n 3, 1) := by decide +kernel
theorem dX10_set_53 : decode cX10_set 53 = .ok (.getfield 115, 3) := by decide +kernel
theorem dX10_set_56 : decode cX10_set 56 = .ok (.istore 4, 2) := by decide +kernel
theorem dX10_set_58 : decode cX10_set 58 = .ok (.aload_n 3, 1) := by decide +kernel
theorem dX10_set_59 : decode cX10_set 59 = .ok (.iload_n 2, 1) := by decide +kernel
theorem dX10_set_60 : decode cX10_set 60 = .ok (.putfield 115, 3) := by decide +kernel
theorem dX10_set_63 : decode cX10_set 63 = .ok (.iload 4, 2) := by decide +kernel
theorem dX10_set_65 : decode cX10_set 65 = .ok (.ireturn, 1) := by decide +kernel
theorem dX10_set_66 : decode cX10_set 66 = .ok (.aload_n 3, 1) := by decide +kernel
theorem dX10_set_67 : decode cX10_set 67 = .ok (.getfield 119, 3) := by decide +kernel
theorem dX10_set_70 : decode cX10_set 70 = .ok (.istore 4, 2) := by decide +kernel
theorem dX10_set_72 : decode cX10_set 72 = .ok (.aload_n 3, 1) := by decide +kernel
theorem dX10_set_73 : decode cX10_set 73 = .ok (.iload_n 2, 1) := by decide +kernel
theorem dX10_set_74 : decode cX10_set 74 = .ok (.putfield 119, 3) := by decide +kernel
theorem dX10_set_77 : decode cX10_set 77 = .ok (.iload 4, 2) := by decide +kernel
theorem dX10_set_79 : decode cX10_set 79 = .ok (.ireturn, 1) := by decide +kernel
theorem dX10_set_80 : decode cX10_set 80 = .ok (.aload_n 3, 1) := by decide +kernel
theorem dX10_set_81 : decode cX10_set 81 = .ok (.getfield 122, 3) := by decide +kernel
theorem dX10_set_84 : decode cX10_set 84 = .ok (.istore 4, 2) := by decide +kernel
theorem dX10_set_86 : decode cX10_set 86 = .ok (.aload_n 3, 1) := by decide +kernel
theorem dX10_set_87 : decode cX10_set 87 = .ok (.iload_n 2, 1) := by decide +kernel
theorem dX10_set_88 : decode cX10_set 88 = .ok (.putfield 122, 3) := by decide +kernel
theorem dX10_set_91 : decode cX10_set 91 = .ok (.iload 4, 2) := by decide +kernel
theorem dX10_set_93 : decode cX10_set 93 = .ok (.ireturn, 1) := by decide +kernel
theorem dX10_scatter_0 : decode cX10_scatter 0 = .ok (.iload_n 1, 1) := by decide +kernel
theorem dX10_scatter_1 : decode cX10_scatter 1 = .ok (.iconst 1, 1) := by decide +kernel
theorem dX10_scatter_2 : decode cX10_scatter 2 = .ok (.bipush 60, 2) := by decide +kernel
theorem dX10_scatter_4 : decode cX10_scatter 4 = .ok (.invokestatic 81, 3) := by decide +kernel
theorem dX10_scatter_7 : decode cX10_scatter 7 = .ok (.ifCond .ne 12, 3) := by decide +kernel
theorem dX10_scatter_10 : decode cX10_scatter 10 = .ok (.aload_n 0, 1) := by decide +kernel
theorem dX10_scatter_11 : decode cX10_scatter 11 = .ok (.getfield 12, 3) := by decide +kernel
theorem dX10_scatter_14 : decode cX10_scatter 14 = .ok (.iconst 0, 1) := by decide +kernel
theorem dX10_scatter_15 : decode cX10_scatter 15 = .ok (.invokevirtual 85, 3) := by decide +kernel
theorem dX10_scatter_18 : decode cX10_scatter 18 = .ok (.ireturn, 1) := by decide +kernel
theorem dX10_scatter_19 : decode cX10_scatter 19 = .ok (.iconst 0, 1) := by decide +kernel
theorem dX10_scatter_20 : decode cX10_scatter 20 = .ok (.istore_n 2, 1) := by decide +kernel
theorem dX10_scatter_21 : decode cX10_scatter 21 = .ok (.iload_n 2, 1) := by decide +kernel
theorem dX10_scatter_22 : decode cX10_scatter 22 = .ok (.iload_n 1, 1) := by decide +kernel
theorem dX10_scatter_23 : decode cX10_scatter 23 = .ok (.if_icmp .ge 43, 3) := by decide +kernel
theorem dX10_scatter_26 : decode cX10_scatter 26 = .ok (.aload_n 0, 1) := by decide +kernel
theorem dX10_scatter_27 : decode cX10_scatter 27 = .ok (.getfield 19, 3) := by decide +kernel
theorem dX10_scatter_30 : decode cX10_scatter 30 = .ok (.invokevirtual 125, 3) := by decide +kernel
theorem dX10_scatter_33 : decode cX10_scatter 33 = .ok (.sipush 192, 3) := by decide +kernel
theorem dX10_scatter_36 : decode cX10_scatter 36 = .ok (.irem, 1) := by decide +kernel
theorem dX10_scatter_37 : decode cX10_scatter 37 = .ok (.istore_n 3, 1) := by decide +kernel
theorem dX10_scatter_38 : decode cX10_scatter 38 = .ok (.aload_n 0, 1) := by decide +kernel
theorem dX10_scatter_39 : decode cX10_scatter 39 = .ok (.getfield 19, 3) := by decide +kernel
theorem dX10_scatter_42 : decode cX10_scatter 42 = .ok (.getfield 89, 3) := by decide +kernel
theorem dX10_scatter_45 : decode cX10_scatter 45 = .ok (.getfield 92, 3) := by decide +kernel
theorem dX10_scatter_48 : decode cX10_scatter 48 = .ok (.iload_n 3, 1) := by decide +kernel
theorem dX10_scatter_49 : decode cX10_scatter 49 = .ok (.aload_n 0, 1) := by decide +kernel
theorem dX10_scatter_50 : decode cX10_scatter 50 = .ok (.getfield 19, 3) := by decide +kernel
theorem dX10_scatter_53 : decode cX10_scatter 53 = .ok (.invokevirtual 125, 3) := by decide +kernel
theorem dX10_scatter_56 : decode cX10_scatter 56 = .ok (.bipush 10, 2) := by decide +kernel
theorem dX10_scatter_58 : decode cX10_scatter 58 = .ok (.irem, 1) := by decide +kernel
theorem dX10_scatter_59 : decode cX10_scatter 59 = .ok (.iastore, 1) := by decide +kernel
theorem dX10_scatter_60 : decode cX10_scatter 60 = .ok (.iinc 2 1, 3) := by decide +kernel
theorem dX10_scatter_63 : decode cX10_scatter 63 = .ok (.goto (-42), 3) := by decide +kernel
theorem dX10_scatter_66 : decode cX10_scatter 66 = .ok (.aload_n 0, 1) := by decide +kernel
theorem dX10_scatter_67 : decode cX10_scatter 67 = .ok (.getfield 19, 3) := by decide +kernel
theorem dX10_scatter_70 : decode cX10_scatter 70 = .ok (.getfield 89, 3) := by decide +kernel
theorem dX10_scatter_73 : decode cX10_scatter 73 = .ok (.getfield 92, 3) := by decide +kernel
theorem dX10_scatter_76 : decode cX10_scatter 76 = .ok (.invokestatic 129, 3) := by decide +kernel
theorem dX10_scatter_79 : decode cX10_scatter 79 = .ok (.ireturn, 1) := by decide +kernel
theorem dX10_clean_0 : decode cX10_clean 0 = .ok (.iload_n 1, 1) := by decide +kernel
theorem dX10_clean_1 : decode cX10_clean 1 = .ok (.invokestatic 133, 3) := by decide +kernel
theorem dX10_clean_4 : decode cX10_clean 4 = .ok (.ifCond .ne 12, 3) := by decide +kernel
theorem dX10_clean_7 : decode cX10_clean 7 = .ok (.aload_n 0, 1) := by decide +kernel
theorem dX10_clean_8 : decode cX10_clean 8 = .ok (.getfield 12, 3) := by decide +kernel
theorem dX10_clean_11 : decode cX10_clean 11 = .ok (.iconst 0, 1) := by decide +kernel
theorem dX10_clean_12 : decode cX10_clean 12 = .ok (.invokevirtual 85, 3) := by decide +kernel
theorem dX10_clean_15 : decode cX10_clean 15 = .ok (.ireturn, 1) := by decide +kernel
theorem dX10_clean_16 : decode cX10_clean 16 = .ok (.aload_n 0, 1) := by decide +kernel
theorem dX10_clean_17 : decode cX10_clean 17 = .ok (.getfield 19, 3) := by decide +kernel
theorem dX10_clean_20 : decode cX10_clean 20 = .ok (.getfield 89, 3) := by decide +kernel
theorem dX10_clean_23 : decode cX10_clean 23 = .ok (.iload_n 1, 1) := by decide +kernel
theorem dX10_clean_24 : decode cX10_clean 24 = .ok (.invokevirtual 136, 3) := by decide +kernel
theorem dX10_clean_27 : decode cX10_clean 27 = .ok (.ireturn, 1) := by decide +kernel
theorem dX10_finger_0 : decode cX10_finger 0 = .ok (.iload_n 1, 1) := by decide +kernel
theorem dX10_finger_1 : decode cX10_finger 1 = .ok (.invokestatic 139, 3) := by decide +kernel
theorem dX10_finger_4 : decode cX10_finger 4 = .ok (.ifCond .ne 12, 3) := by decide +kernel
theorem dX10_finger_7 : decode cX10_finger 7 = .ok (.aload_n 0, 1) := by decide +kernel
theorem dX10_finger_8 : decode cX10_finger 8 = .ok (.getfield 12, 3) := by decide +kernel
theorem dX10_finger_11 : decode cX10_finger 11 = .ok (.iconst 0, 1) := by decide +kernel
theorem dX10_finger_12 : decode cX10_finger 12 = .ok (.invokevirtual 85, 3) := by decide +kernel
theorem dX10_finger_15 : decode cX10_finger 15 = .ok (.ireturn, 1) := by decide +kernel
theorem dX10_finger_16 : decode cX10_finger 16 = .ok (.aload_n 0, 1) := by decide +kernel
theorem dX10_finger_17 : decode cX10_finger 17 = .ok (.getfield 19, 3) := by decide +kernel
theorem dX10_finger_20 : decode cX10_finger 20 = .ok (.getfield 89, 3) := by decide +kernel
theorem dX10_finger_23 : decode cX10_finger 23 = .ok (.iload_n 1, 1) := by decide +kernel
theorem dX10_finger_24 : decode cX10_finger 24 = .ok (.invokevirtual 142, 3) := by decide +kernel
theorem dX10_finger_27 : decode cX10_finger 27 = .ok (.ireturn, 1) := by decide +kernel
theorem dX10_fades_0 : decode cX10_fades 0 = .ok (.iload_n 1, 1) := by decide +kernel
theorem dX10_fades_1 : decode cX10_fades 1 = .ok (.invokestatic 77, 3) := by decide +kernel
theorem dX10_fades_4 : decode cX10_fades 4 = .ok (.ifCond .ne 12, 3) := by decide +kernel
theorem dX10_fades_7 : decode cX10_fades 7 = .ok (.aload_n 0, 1) := by decide +kernel
theorem dX10_fades_8 : decode cX10_fades 8 = .ok (.getfield 12, 3) := by decide +kernel
theorem dX10_fades_11 : decode cX10_fades 11 = .ok (.iconst 0, 1) := by decide +kernel
theorem dX10_fades_12 : decode cX10_fades 12 = .ok (.invokevirtual 85, 3) := by decide +kernel
theorem dX10_fades_15 : decode cX10_fades 15 = .ok (.ireturn, 1) := by decide +kernel
theorem dX10_fades_16 : decode cX10_fades 16 = .ok (.aload_n 0, 1) := by decide +kernel
theorem dX10_fades_17 : decode cX10_fades 17 = .ok (.getfield 19, 3) := by decide +kernel
theorem dX10_fades_20 : decode cX10_fades 20 = .ok (.getfield 89, 3) := by decide +kernel
theorem dX10_fades_23 : decode cX10_fades 23 = .ok (.getfield 96, 3) := by decide +kernel
theorem dX10_fades_26 : decode cX10_fades 26 = .ok (.iload_n 1, 1) := by decide +kernel
theorem dX10_fades_27 : decode cX10_fades 27 = .ok (.iaload, 1) := by decide +kernel
theorem dX10_fades_28 : decode cX10_fades 28 = .ok (.istore_n 2, 1) := by decide +kernel
theorem dX10_fades_29 : decode cX10_fades 29 = .ok (.aload_n 0, 1) := by decide +kernel
theorem dX10_fades_30 : decode cX10_fades 30 = .ok (.getfield 19, 3) := by decide +kernel
theorem dX10_fades_33 : decode cX10_fades 33 = .ok (.getfield 89, 3) := by decide +kernel
theorem dX10_fades_36 : decode cX10_fades 36 = .ok (.getfield 122, 3) := by decide +kernel
theorem dX10_fades_39 : decode cX10_fades 39 = .ok (.istore_n 3, 1) := by decide +kernel
theorem dX10_fades_40 : decode cX10_fades 40 = .ok (.iload_n 2, 1) := by decide +kernel
theorem dX10_fades_41 : decode cX10_fades 41 = .ok (.ifCond .ne 5, 3) := by decide +kernel
theorem dX10_fades_44 : decode cX10_fades 44 = .ok (.iconst 0, 1) := by decide +kernel
theorem dX10_fades_45 : decode cX10_fades 45 = .ok (.ireturn, 1) := by decide +kernel
theorem dX10_fades_46 : decode cX10_fades 46 = .ok (.iload_n 3, 1) := by decide +kernel
theorem dX10_fades_47 : decode cX10_fades 47 = .ok (.ifCond .gt 12, 3) := by decide +kernel
theorem dX10_fades_50 : decode cX10_fades 50 = .ok (.aload_n 0, 1) := by decide +kernel
theorem dX10_fades_51 : decode cX10_fades 51 = .ok (.getfield 12, 3) := by decide +kernel
theorem dX10_fades_54 : decode cX10_fades 54 = .ok (.iconst 3, 1) := by decide +kernel
theorem dX10_fades_55 : decode cX10_fades 55 = .ok (.invokevirtual 85, 3) := by decide +kernel
theorem dX10_fades_58 : decode cX10_fades 58 = .ok (.ireturn, 1) := by decide +kernel
theorem dX10_fades_59 : decode cX10_fades 59 = .ok (.iload_n 2, 1) := by decide +kernel
theorem dX10_fades_60 : decode cX10_fades 60 = .ok (.iload_n 3, 1) := by decide +kernel
theorem dX10_fades_61 : decode cX10_fades 61 = .ok (.iadd, 1) := by decide +kernel
theorem dX10_fades_62 : decode cX10_fades 62 = .ok (.iconst 1, 1) := by decide +kernel
theorem dX10_fades_63 : decode cX10_fades 63 = .ok (.isub, 1) := by decide +kernel
theorem dX10_fades_64 : decode cX10_fades 64 = .ok (.iload_n 3, 1) := by decide +kernel
theorem dX10_fades_65 : decode cX10_fades 65 = .ok (.idiv, 1) := by decide +kernel
theorem dX10_fades_66 : decode cX10_fades 66 = .ok (.ireturn, 1) := by decide +kernel
theorem dX10_drop_0 : decode cX10_drop 0 = .ok (.iload_n 1, 1) := by decide +kernel
theorem dX10_drop_1 : decode cX10_drop 1 = .ok (.iload_n 2, 1) := by decide +kernel
theorem dX10_drop_2 : decode cX10_drop 2 = .ok (.iload_n 3, 1) := by decide +kernel
theorem dX10_drop_3 : decode cX10_drop 3 = .ok (.invokestatic 145, 3) := by decide +kernel
theorem dX10_drop_6 : decode cX10_drop 6 = .ok (.ifCond .ne 12, 3) := by decide +kernel
theorem dX10_drop_9 : decode cX10_drop 9 = .ok (.aload_n 0, 1) := by decide +kernel
theorem dX10_drop_10 : decode cX10_drop 10 = .ok (.getfield 12, 3) := by decide +kernel
theorem dX10_drop_13 : decode cX10_drop 13 = .ok (.iconst 0, 1) := by decide +kernel
theorem dX10_drop_14 : decode cX10_drop 14 = .ok (.invokevirtual 85, 3) := by decide +kernel
theorem dX10_drop_17 : decode cX10_drop 17 = .ok (.ireturn, 1) := by decide +kernel
theorem dX10_drop_18 : decode cX10_drop 18 = .ok (.aload_n 0, 1) := by decide +kernel
theorem dX10_drop_19 : decode cX10_drop 19 = .ok (.getfield 19, 3) := by decide +kernel
theorem dX10_drop_22 : decode cX10_drop 22 = .ok (.iload_n 1, 1) := by decide +kernel
theorem dX10_drop_23 : decode cX10_drop 23 = .ok (.iload_n 2, 1) := by decide +kernel
theorem dX10_drop_24 : decode cX10_drop 24 = .ok (.iload_n 3, 1) := by decide +kernel
theorem dX10_drop_25 : decode cX10_drop 25 = .ok (.invokevirtual 148, 3) := by decide +kernel
theorem dX10_drop_28 : decode cX10_drop 28 = .ok (.istore 4, 2) := by decide +kernel
theorem dX10_drop_30 : decode cX10_drop 30 = .ok (.iload 4, 2) := by decide +kernel
theorem dX10_drop_32 : decode cX10_drop 32 = .ok (.iconst (-1), 1) := by decide +kernel
theorem dX10_drop_33 : decode cX10_drop 33 = .ok (.if_icmp .ne 14, 3) := by decide +kernel
theorem dX10_drop_36 : decode cX10_drop 36 = .ok (.aload_n 0, 1) := by decide +kernel
theorem dX10_drop_37 : decode cX10_drop 37 = .ok (.getfield 12, 3) := by decide +kernel
theorem dX10_drop_40 : decode cX10_drop 40 = .ok (.iconst 1, 1) := by decide +kernel
theorem dX10_drop_41 : decode cX10_drop 41 = .ok (.invokevirtual 85, 3) := by decide +kernel
theorem dX10_drop_44 : decode cX10_drop 44 = .ok (.goto 5, 3) := by decide +kernel
theorem dX10_drop_47 : decode cX10_drop 47 = .ok (.iload 4, 2) := by decide +kernel
theorem dX10_drop_49 : decode cX10_drop 49 = .ok (.ireturn, 1) := by decide +kernel
theorem dX10_dropOf_0 : decode cX10_dropOf 0 = .ok (.iload_n 1, 1) := by decide +kernel
theorem dX10_dropOf_1 : decode cX10_dropOf 1 = .ok (.invokestatic 152, 3) := by decide +kernel
theorem dX10_dropOf_4 : decode cX10_dropOf 4 = .ok (.ifCond .eq 12, 3) := by decide +kernel
theorem dX10_dropOf_7 : decode cX10_dropOf 7 = .ok (.iload_n 2, 1) := by decide +kernel
theorem dX10_dropOf_8 : decode cX10_dropOf 8 = .ok (.iconst 0, 1) := by decide +kernel
theorem dX10_dropOf_9 : decode cX10_dropOf 9 = .ok (.iconst 3, 1) := by decide +kernel
theorem dX10_dropOf_10 : decode cX10_dropOf 10 = .ok (.invokestatic 81, 3) := by decide +kernel
theorem dX10_dropOf_13 : decode cX10_dropOf 13 = .ok (.ifCond .ne 12, 3) := by decide +kernel
theorem dX10_dropOf_16 : decode cX10_dropOf 16 = .ok (.aload_n 0, 1) := by decide +kernel
theorem dX10_dropOf_17 : decode cX10_dropOf 17 = .ok (.getfield 12, 3) := by decide +kernel
theorem dX10_dropOf_20 : decode cX10_dropOf 20 = .ok (.iconst 0, 1) := by decide +kernel
theorem dX10_dropOf_21 : decode cX10_dropOf 21 = .ok (.invokevirtual 85, 3) := by decide +kernel
theorem dX10_dropOf_24 : decode cX10_dropOf 24 = .ok (.ireturn, 1) := by decide +kernel
theorem dX10_dropOf_25 : decode cX10_dropOf 25 = .ok (.aload_n 0, 1) := by decide +kernel
theorem dX10_dropOf_26 : decode cX10_dropOf 26 = .ok (.getfield 19, 3) := by decide +kernel
theorem dX10_dropOf_29 : decode cX10_dropOf 29 = .ok (.getfield 102, 3) := by decide +kernel
theorem dX10_dropOf_32 : decode cX10_dropOf 32 = .ok (.astore_n 3, 1) := by decide +kernel
theorem dX10_dropOf_33 : decode cX10_dropOf 33 = .ok (.aload_n 3, 1) := by decide +kernel
theorem dX10_dropOf_34 : decode cX10_dropOf 34 = .ok (.iload_n 1, 1) := by decide +kernel
theorem dX10_dropOf_35 : decode cX10_dropOf 35 = .ok (.invokevirtual 155, 3) := by decide +kernel
theorem dX10_dropOf_38 : decode cX10_dropOf 38 = .ok (.ifCond .ne 12, 3) := by decide +kernel
theorem dX10_dropOf_41 : decode cX10_dropOf 41 = .ok (.aload_n 0, 1) := by decide +kernel
theorem dX10_dropOf_42 : decode cX10_dropOf 42 = .ok (.getfield 12, 3) := by decide +kernel
end
section
theorem dX10_dropOf_45 : decode cX10_dropOf 45 = .ok (.iconst 3, 1) := by decide +kernel
theorem dX10_dropOf_46 : decode cX10_dropOf 46 = .ok (.invokevirtual 85, 3) := by decide +kernel
theorem dX10_dropOf_49 : decode cX10_dropOf 49 = .ok (.ireturn, 1) := by decide +kernel
theorem dX10_dropOf_50 : decode cX10_dropOf 50 = .ok (.iload_n 2, 1) := by decide +kernel
theorem dX10_dropOf_51 : decode cX10_dropOf 51 = .ok (.tableswitch 46 0 2 #[25, 32, 39], 25) := by decide +kernel
theorem dX10_dropOf_76 : decode cX10_dropOf 76 = .ok (.aload_n 3, 1) := by decide +kernel
theorem dX10_dropOf_77 : decode cX10_dropOf 77 = .ok (.getfield 158, 3) := by decide +kernel
theorem dX10_dropOf_80 : decode cX10_dropOf 80 = .ok (.iload_n 1, 1) := by decide +kernel
theorem dX10_dropOf_81 : decode cX10_dropOf 81 = .ok (.iaload, 1) := by decide +kernel
theorem dX10_dropOf_82 : decode cX10_dropOf 82 = .ok (.ireturn, 1) := by decide +kernel
theorem dX10_dropOf_83 : decode cX10_dropOf 83 = .ok (.aload_n 3, 1) := by decide +kernel
theorem dX10_dropOf_84 : decode cX10_dropOf 84 = .ok (.getfield 161, 3) := by decide +kernel
theorem dX10_dropOf_87 : decode cX10_dropOf 87 = .ok (.iload_n 1, 1) := by decide +kernel
theorem dX10_dropOf_88 : decode cX10_dropOf 88 = .ok (.iaload, 1) := by decide +kernel
theorem dX10_dropOf_89 : decode cX10_dropOf 89 = .ok (.ireturn, 1) := by decide +kernel
theorem dX10_dropOf_90 : decode cX10_dropOf 90 = .ok (.aload_n 3, 1) := by decide +kernel
theorem dX10_dropOf_91 : decode cX10_dropOf 91 = .ok (.getfield 164, 3) := by decide +kernel
theorem dX10_dropOf_94 : decode cX10_dropOf 94 = .ok (.iload_n 1, 1) := by decide +kernel
theorem dX10_dropOf_95 : decode cX10_dropOf 95 = .ok (.iaload, 1) := by decide +kernel
theorem dX10_dropOf_96 : decode cX10_dropOf 96 = .ok (.ireturn, 1) := by decide +kernel
theorem dX10_dropOf_97 : decode cX10_dropOf 97 = .ok (.aload_n 3, 1) := by decide +kernel
theorem dX10_dropOf_98 : decode cX10_dropOf 98 = .ok (.getfield 167, 3) := by decide +kernel
theorem dX10_dropOf_101 : decode cX10_dropOf 101 = .ok (.iload_n 1, 1) := by decide +kernel
theorem dX10_dropOf_102 : decode cX10_dropOf 102 = .ok (.iaload, 1) := by decide +kernel
theorem dX10_dropOf_103 : decode cX10_dropOf 103 = .ok (.ireturn, 1) := by decide +kernel
theorem dX10_tick_0 : decode cX10_tick 0 = .ok (.iload_n 1, 1) := by decide +kernel
theorem dX10_tick_1 : decode cX10_tick 1 = .ok (.iconst 1, 1) := by decide +kernel
theorem dX10_tick_2 : decode cX10_tick 2 = .ok (.bipush 50, 2) := by decide +kernel
theorem dX10_tick_4 : decode cX10_tick 4 = .ok (.invokestatic 81, 3) := by decide +kernel
theorem dX10_tick_7 : decode cX10_tick 7 = .ok (.ifCond .ne 12, 3) := by decide +kernel
theorem dX10_tick_10 : decode cX10_tick 10 = .ok (.aload_n 0, 1) := by decide +kernel
theorem dX10_tick_11 : decode cX10_tick 11 = .ok (.getfield 12, 3) := by decide +kernel
theorem dX10_tick_14 : decode cX10_tick 14 = .ok (.iconst 0, 1) := by decide +kernel
theorem dX10_tick_15 : decode cX10_tick 15 = .ok (.invokevirtual 85, 3) := by decide +kernel
theorem dX10_tick_18 : decode cX10_tick 18 = .ok (.ireturn, 1) := by decide +kernel
theorem dX10_tick_19 : decode cX10_tick 19 = .ok (.aload_n 0, 1) := by decide +kernel
theorem dX10_tick_20 : decode cX10_tick 20 = .ok (.getfield 19, 3) := by decide +kernel
theorem dX10_tick_23 : decode cX10_tick 23 = .ok (.iload_n 1, 1) := by decide +kernel
theorem dX10_tick_24 : decode cX10_tick 24 = .ok (.invokevirtual 170, 3) := by decide +kernel
theorem dX10_tick_27 : decode cX10_tick 27 = .ok (.aload_n 0, 1) := by decide +kernel
theorem dX10_tick_28 : decode cX10_tick 28 = .ok (.getfield 19, 3) := by decide +kernel
theorem dX10_tick_31 : decode cX10_tick 31 = .ok (.getfield 102, 3) := by decide +kernel
theorem dX10_tick_34 : decode cX10_tick 34 = .ok (.invokevirtual 174, 3) := by decide +kernel
theorem dX10_tick_37 : decode cX10_tick 37 = .ok (.ireturn, 1) := by decide +kernel
theorem dX10_next_0 : decode cX10_next 0 = .ok (.iload_n 1, 1) := by decide +kernel
theorem dX10_next_1 : decode cX10_next 1 = .ok (.invokestatic 152, 3) := by decide +kernel
theorem dX10_next_4 : decode cX10_next 4 = .ok (.ifCond .ne 12, 3) := by decide +kernel
theorem dX10_next_7 : decode cX10_next 7 = .ok (.aload_n 0, 1) := by decide +kernel
theorem dX10_next_8 : decode cX10_next 8 = .ok (.getfield 12, 3) := by decide +kernel
theorem dX10_next_11 : decode cX10_next 11 = .ok (.iconst 0, 1) := by decide +kernel
theorem dX10_next_12 : decode cX10_next 12 = .ok (.invokevirtual 85, 3) := by decide +kernel
theorem dX10_next_15 : decode cX10_next 15 = .ok (.ireturn, 1) := by decide +kernel
theorem dX10_next_16 : decode cX10_next 16 = .ok (.aload_n 0, 1) := by decide +kernel
theorem dX10_next_17 : decode cX10_next 17 = .ok (.getfield 19, 3) := by decide +kernel
theorem dX10_next_20 : decode cX10_next 20 = .ok (.getfield 102, 3) := by decide +kernel
theorem dX10_next_23 : decode cX10_next 23 = .ok (.astore_n 2, 1) := by decide +kernel
theorem dX10_next_24 : decode cX10_next 24 = .ok (.aload_n 2, 1) := by decide +kernel
theorem dX10_next_25 : decode cX10_next 25 = .ok (.iload_n 1, 1) := by decide +kernel
theorem dX10_next_26 : decode cX10_next 26 = .ok (.invokevirtual 155, 3) := by decide +kernel
theorem dX10_next_29 : decode cX10_next 29 = .ok (.ifCond .ne 12, 3) := by decide +kernel
theorem dX10_next_32 : decode cX10_next 32 = .ok (.aload_n 0, 1) := by decide +kernel
theorem dX10_next_33 : decode cX10_next 33 = .ok (.getfield 12, 3) := by decide +kernel
theorem dX10_next_36 : decode cX10_next 36 = .ok (.iconst 3, 1) := by decide +kernel
theorem dX10_next_37 : decode cX10_next 37 = .ok (.invokevirtual 85, 3) := by decide +kernel
theorem dX10_next_40 : decode cX10_next 40 = .ok (.ireturn, 1) := by decide +kernel
theorem dX10_next_41 : decode cX10_next 41 = .ok (.aload_n 0, 1) := by decide +kernel
theorem dX10_next_42 : decode cX10_next 42 = .ok (.getfield 19, 3) := by decide +kernel
theorem dX10_next_45 : decode cX10_next 45 = .ok (.getfield 89, 3) := by decide +kernel
theorem dX10_next_48 : decode cX10_next 48 = .ok (.aload_n 2, 1) := by decide +kernel
theorem dX10_next_49 : decode cX10_next 49 = .ok (.getfield 158, 3) := by decide +kernel
theorem dX10_next_52 : decode cX10_next 52 = .ok (.iload_n 1, 1) := by decide +kernel
theorem dX10_next_53 : decode cX10_next 53 = .ok (.iaload, 1) := by decide +kernel
theorem dX10_next_54 : decode cX10_next 54 = .ok (.aload_n 2, 1) := by decide +kernel
theorem dX10_next_55 : decode cX10_next 55 = .ok (.getfield 161, 3) := by decide +kernel
theorem dX10_next_58 : decode cX10_next 58 = .ok (.iload_n 1, 1) := by decide +kernel
theorem dX10_next_59 : decode cX10_next 59 = .ok (.iaload, 1) := by decide +kernel
theorem dX10_next_60 : decode cX10_next 60 = .ok (.aload_n 2, 1) := by decide +kernel
theorem dX10_next_61 : decode cX10_next 61 = .ok (.getfield 164, 3) := by decide +kernel
theorem dX10_next_64 : decode cX10_next 64 = .ok (.iload_n 1, 1) := by decide +kernel
theorem dX10_next_65 : decode cX10_next 65 = .ok (.iaload, 1) := by decide +kernel
theorem dX10_next_66 : decode cX10_next 66 = .ok (.aload_n 2, 1) := by decide +kernel
theorem dX10_next_67 : decode cX10_next 67 = .ok (.getfield 167, 3) := by decide +kernel
theorem dX10_next_70 : decode cX10_next 70 = .ok (.iload_n 1, 1) := by decide +kernel
theorem dX10_next_71 : decode cX10_next 71 = .ok (.iaload, 1) := by decide +kernel
theorem dX10_next_72 : decode cX10_next 72 = .ok (.invokevirtual 177, 3) := by decide +kernel
theorem dX10_next_75 : decode cX10_next 75 = .ok (.ireturn, 1) := by decide +kernel
theorem dX10_pour_0 : decode cX10_pour 0 = .ok (.iload_n 1, 1) := by decide +kernel
theorem dX10_pour_1 : decode cX10_pour 1 = .ok (.invokestatic 152, 3) := by decide +kernel
theorem dX10_pour_4 : decode cX10_pour 4 = .ok (.ifCond .eq 10, 3) := by decide +kernel
theorem dX10_pour_7 : decode cX10_pour 7 = .ok (.iload_n 2, 1) := by decide +kernel
theorem dX10_pour_8 : decode cX10_pour 8 = .ok (.invokestatic 181, 3) := by decide +kernel
theorem dX10_pour_11 : decode cX10_pour 11 = .ok (.ifCond .ne 12, 3) := by decide +kernel
theorem dX10_pour_14 : decode cX10_pour 14 = .ok (.aload_n 0, 1) := by decide +kernel
theorem dX10_pour_15 : decode cX10_pour 15 = .ok (.getfield 12, 3) := by decide +kernel
theorem dX10_pour_18 : decode cX10_pour 18 = .ok (.iconst 0, 1) := by decide +kernel
theorem dX10_pour_19 : decode cX10_pour 19 = .ok (.invokevirtual 85, 3) := by decide +kernel
theorem dX10_pour_22 : decode cX10_pour 22 = .ok (.ireturn, 1) := by decide +kernel
theorem dX10_pour_23 : decode cX10_pour 23 = .ok (.aload_n 0, 1) := by decide +kernel
theorem dX10_pour_24 : decode cX10_pour 24 = .ok (.getfield 19, 3) := by decide +kernel
theorem dX10_pour_27 : decode cX10_pour 27 = .ok (.getfield 102, 3) := by decide +kernel
theorem dX10_pour_30 : decode cX10_pour 30 = .ok (.iload_n 1, 1) := by decide +kernel
theorem dX10_pour_31 : decode cX10_pour 31 = .ok (.invokevirtual 155, 3) := by decide +kernel
theorem dX10_pour_34 : decode cX10_pour 34 = .ok (.ifCond .ne 12, 3) := by decide +kernel
theorem dX10_pour_37 : decode cX10_pour 37 = .ok (.aload_n 0, 1) := by decide +kernel
theorem dX10_pour_38 : decode cX10_pour 38 = .ok (.getfield 12, 3) := by decide +kernel
theorem dX10_pour_41 : decode cX10_pour 41 = .ok (.iconst 3, 1) := by decide +kernel
theorem dX10_pour_42 : decode cX10_pour 42 = .ok (.invokevirtual 85, 3) := by decide +kernel
theorem dX10_pour_45 : decode cX10_pour 45 = .ok (.ireturn, 1) := by decide +kernel
theorem dX10_pour_46 : decode cX10_pour 46 = .ok (.aload_n 0, 1) := by decide +kernel
theorem dX10_pour_47 : decode cX10_pour 47 = .ok (.getfield 19, 3) := by decide +kernel
theorem dX10_pour_50 : decode cX10_pour 50 = .ok (.getfield 102, 3) := by decide +kernel
theorem dX10_pour_53 : decode cX10_pour 53 = .ok (.iload_n 1, 1) := by decide +kernel
theorem dX10_pour_54 : decode cX10_pour 54 = .ok (.iload_n 2, 1) := by decide +kernel
theorem dX10_pour_55 : decode cX10_pour 55 = .ok (.invokevirtual 184, 3) := by decide +kernel
theorem dX10_pour_58 : decode cX10_pour 58 = .ok (.aload_n 0, 1) := by decide +kernel
theorem dX10_pour_59 : decode cX10_pour 59 = .ok (.getfield 19, 3) := by decide +kernel
theorem dX10_pour_62 : decode cX10_pour 62 = .ok (.getfield 102, 3) := by decide +kernel
theorem dX10_pour_65 : decode cX10_pour 65 = .ok (.getfield 164, 3) := by decide +kernel
theorem dX10_pour_68 : decode cX10_pour 68 = .ok (.iload_n 1, 1) := by decide +kernel
theorem dX10_pour_69 : decode cX10_pour 69 = .ok (.iaload, 1) := by decide +kernel
theorem dX10_pour_70 : decode cX10_pour 70 = .ok (.ireturn, 1) := by decide +kernel
theorem dX10_shed_0 : decode cX10_shed 0 = .ok (.iload_n 1, 1) := by decide +kernel
theorem dX10_shed_1 : decode cX10_shed 1 = .ok (.iconst (-1), 1) := by decide +kernel
theorem dX10_shed_2 : decode cX10_shed 2 = .ok (.if_icmp .ne 14, 3) := by decide +kernel
theorem dX10_shed_5 : decode cX10_shed 5 = .ok (.aload_n 0, 1) := by decide +kernel
theorem dX10_shed_6 : decode cX10_shed 6 = .ok (.getfield 19, 3) := by decide +kernel
theorem dX10_shed_9 : decode cX10_shed 9 = .ok (.getfield 188, 3) := by decide +kernel
theorem dX10_shed_12 : decode cX10_shed 12 = .ok (.invokestatic 191, 3) := by decide +kernel
theorem dX10_shed_15 : decode cX10_shed 15 = .ok (.ireturn, 1) := by decide +kernel
theorem dX10_shed_16 : decode cX10_shed 16 = .ok (.iload_n 1, 1) := by decide +kernel
theorem dX10_shed_17 : decode cX10_shed 17 = .ok (.invokestatic 139, 3) := by decide +kernel
theorem dX10_shed_20 : decode cX10_shed 20 = .ok (.ifCond .ne 12, 3) := by decide +kernel
theorem dX10_shed_23 : decode cX10_shed 23 = .ok (.aload_n 0, 1) := by decide +kernel
theorem dX10_shed_24 : decode cX10_shed 24 = .ok (.getfield 12, 3) := by decide +kernel
theorem dX10_shed_27 : decode cX10_shed 27 = .ok (.iconst 0, 1) := by decide +kernel
theorem dX10_shed_28 : decode cX10_shed 28 = .ok (.invokevirtual 85, 3) := by decide +kernel
theorem dX10_shed_31 : decode cX10_shed 31 = .ok (.ireturn, 1) := by decide +kernel
theorem dX10_shed_32 : decode cX10_shed 32 = .ok (.aload_n 0, 1) := by decide +kernel
theorem dX10_shed_33 : decode cX10_shed 33 = .ok (.getfield 19, 3) := by decide +kernel
theorem dX10_shed_36 : decode cX10_shed 36 = .ok (.getfield 188, 3) := by decide +kernel
theorem dX10_shed_39 : decode cX10_shed 39 = .ok (.iload_n 1, 1) := by decide +kernel
theorem dX10_shed_40 : decode cX10_shed 40 = .ok (.iaload, 1) := by decide +kernel
theorem dX10_shed_41 : decode cX10_shed 41 = .ok (.ireturn, 1) := by decide +kernel
theorem dX10_feed_0 : decode cX10_feed 0 = .ok (.iload_n 2, 1) := by decide +kernel
theorem dX10_feed_1 : decode cX10_feed 1 = .ok (.iconst 1, 1) := by decide +kernel
theorem dX10_feed_2 : decode cX10_feed 2 = .ok (.iconst 4, 1) := by decide +kernel
theorem dX10_feed_3 : decode cX10_feed 3 = .ok (.invokestatic 81, 3) := by decide +kernel
theorem dX10_feed_6 : decode cX10_feed 6 = .ok (.ifCond .ne 12, 3) := by decide +kernel
theorem dX10_feed_9 : decode cX10_feed 9 = .ok (.aload_n 0, 1) := by decide +kernel
theorem dX10_feed_10 : decode cX10_feed 10 = .ok (.getfield 12, 3) := by decide +kernel
theorem dX10_feed_13 : decode cX10_feed 13 = .ok (.iconst 0, 1) := by decide +kernel
theorem dX10_feed_14 : decode cX10_feed 14 = .ok (.invokevirtual 85, 3) := by decide +kernel
theorem dX10_feed_17 : decode cX10_feed 17 = .ok (.ireturn, 1) := by decide +kernel
theorem dX10_feed_18 : decode cX10_feed 18 = .ok (.aload_n 0, 1) := by decide +kernel
theorem dX10_feed_19 : decode cX10_feed 19 = .ok (.getfield 33, 3) := by decide +kernel
theorem dX10_feed_22 : decode cX10_feed 22 = .ok (.getfield 194, 3) := by decide +kernel
theorem dX10_feed_25 : decode cX10_feed 25 = .ok (.iload_n 2, 1) := by decide +kernel
theorem dX10_feed_26 : decode cX10_feed 26 = .ok (.iadd, 1) := by decide +kernel
theorem dX10_feed_27 : decode cX10_feed 27 = .ok (.bipush 100, 2) := by decide +kernel
theorem dX10_feed_29 : decode cX10_feed 29 = .ok (.if_icmp .le 12, 3) := by decide +kernel
theorem dX10_feed_32 : decode cX10_feed 32 = .ok (.aload_n 0, 1) := by decide +kernel
theorem dX10_feed_33 : decode cX10_feed 33 = .ok (.getfield 12, 3) := by decide +kernel
theorem dX10_feed_36 : decode cX10_feed 36 = .ok (.iconst 1, 1) := by decide +kernel
theorem dX10_feed_37 : decode cX10_feed 37 = .ok (.invokevirtual 85, 3) := by decide +kernel
theorem dX10_feed_40 : decode cX10_feed 40 = .ok (.ireturn, 1) := by decide +kernel
theorem dX10_feed_41 : decode cX10_feed 41 = .ok (.aload_n 0, 1) := by decide +kernel
theorem dX10_feed_42 : decode cX10_feed 42 = .ok (.getfield 33, 3) := by decide +kernel
theorem dX10_feed_45 : decode cX10_feed 45 = .ok (.iload_n 1, 1) := by decide +kernel
theorem dX10_feed_46 : decode cX10_feed 46 = .ok (.iload_n 2, 1) := by decide +kernel
theorem dX10_feed_47 : decode cX10_feed 47 = .ok (.invokevirtual 197, 3) := by decide +kernel
theorem dX10_feed_50 : decode cX10_feed 50 = .ok (.aload_n 0, 1) := by decide +kernel
theorem dX10_feed_51 : decode cX10_feed 51 = .ok (.getfield 33, 3) := by decide +kernel
theorem dX10_feed_54 : decode cX10_feed 54 = .ok (.getfield 194, 3) := by decide +kernel
theorem dX10_feed_57 : decode cX10_feed 57 = .ok (.ireturn, 1) := by decide +kernel
theorem dX10_wipe_0 : decode cX10_wipe 0 = .ok (.aload_n 0, 1) := by decide +kernel
theorem dX10_wipe_1 : decode cX10_wipe 1 = .ok (.getfield 33, 3) := by decide +kernel
theorem dX10_wipe_4 : decode cX10_wipe 4 = .ok (.getfield 194, 3) := by decide +kernel
theorem dX10_wipe_7 : decode cX10_wipe 7 = .ok (.istore_n 1, 1) := by decide +kernel
theorem dX10_wipe_8 : decode cX10_wipe 8 = .ok (.aload_n 0, 1) := by decide +kernel
theorem dX10_wipe_9 : decode cX10_wipe 9 = .ok (.getfield 33, 3) := by decide +kernel
theorem dX10_wipe_12 : decode cX10_wipe 12 = .ok (.iconst 0, 1) := by decide +kernel
theorem dX10_wipe_13 : decode cX10_wipe 13 = .ok (.putfield 194, 3) := by decide +kernel
theorem dX10_wipe_16 : decode cX10_wipe 16 = .ok (.iload_n 1, 1) := by decide +kernel
theorem dX10_wipe_17 : decode cX10_wipe 17 = .ok (.ireturn, 1) := by decide +kernel
theorem dX10_program_0 : decode cX10_program 0 = .ok (.aload_n 0, 1) := by decide +kernel
theorem dX10_program_1 : decode cX10_program 1 = .ok (.getfield 19, 3) := by decide +kernel
theorem dX10_program_4 : decode cX10_program 4 = .ok (.getfield 200, 3) := by decide +kernel
theorem dX10_program_7 : decode cX10_program 7 = .ok (.astore_n 1, 1) := by decide +kernel
theorem dX10_program_8 : decode cX10_program 8 = .ok (.aload_n 1, 1) := by decide +kernel
theorem dX10_program_9 : decode cX10_program 9 = .ok (.getfield 204, 3) := by decide +kernel
theorem dX10_program_12 : decode cX10_program 12 = .ok (.bipush 6, 2) := by decide +kernel
theorem dX10_program_14 : decode cX10_program 14 = .ok (.if_icmp .lt 12, 3) := by decide +kernel
theorem dX10_program_17 : decode cX10_program 17 = .ok (.aload_n 0, 1) := by decide +kernel
theorem dX10_program_18 : decode cX10_program 18 = .ok (.getfield 12, 3) := by decide +kernel
theorem dX10_program_21 : decode cX10_program 21 = .ok (.iconst 1, 1) := by decide +kernel
theorem dX10_program_22 : decode cX10_program 22 = .ok (.invokevirtual 85, 3) := by decide +kernel
theorem dX10_program_25 : decode cX10_program 25 = .ok (.ireturn, 1) := by decide +kernel
theorem dX10_program_26 : decode cX10_program 26 = .ok (.aload_n 0, 1) := by decide +kernel
theorem dX10_program_27 : decode cX10_program 27 = .ok (.getfield 42, 3) := by decide +kernel
theorem dX10_program_30 : decode cX10_program 30 = .ok (.aload_n 1, 1) := by decide +kernel
theorem dX10_program_31 : decode cX10_program 31 = .ok (.invokevirtual 209, 3) := by decide +kernel
theorem dX10_program_34 : decode cX10_program 34 = .ok (.istore_n 2, 1) := by decide +kernel
theorem dX10_program_35 : decode cX10_program 35 = .ok (.aload_n 0, 1) := by decide +kernel
theorem dX10_program_36 : decode cX10_program 36 = .ok (.getfield 33, 3) := by decide +kernel
theorem dX10_program_39 : decode cX10_program 39 = .ok (.iconst 0, 1) := by decide +kernel
theorem dX10_program_40 : decode cX10_program 40 = .ok (.putfield 194, 3) := by decide +kernel
theorem dX10_program_43 : decode cX10_program 43 = .ok (.iload_n 2, 1) := by decide +kernel
theorem dX10_program_44 : decode cX10_program 44 = .ok (.iconst (-1), 1) := by decide +kernel
theorem dX10_program_45 : decode cX10_program 45 = .ok (.if_icmp .ne 12, 3) := by decide +kernel
theorem dX10_program_48 : decode cX10_program 48 = .ok (.aload_n 1, 1) := by decide +kernel
theorem dX10_program_49 : decode cX10_program 49 = .ok (.getfield 204, 3) := by decide +kernel
theorem dX10_program_52 : decode cX10_program 52 = .ok (.iconst 1, 1) := by decide +kernel
theorem dX10_program_53 : decode cX10_program 53 = .ok (.isub, 1) := by decide +kernel
theorem dX10_program_54 : decode cX10_program 54 = .ok (.goto 6, 3) := by decide +kernel
theorem dX10_program_57 : decode cX10_program 57 = .ok (.iconst (-1), 1) := by decide +kernel
theorem dX10_program_58 : decode cX10_program 58 = .ok (.iload_n 2, 1) := by decide +kernel
theorem dX10_program_59 : decode cX10_program 59 = .ok (.isub, 1) := by decide +kernel
theorem dX10_program_60 : decode cX10_program 60 = .ok (.ireturn, 1) := by decide +kernel
theorem dX10_programOf_0 : decode cX10_programOf 0 = .ok (.aload_n 0, 1) := by decide +kernel
theorem dX10_programOf_1 : decode cX10_programOf 1 = .ok (.iload_n 1, 1) := by decide +kernel
theorem dX10_programOf_2 : decode cX10_programOf 2 = .ok (.invokevirtual 213, 3) := by decide +kernel
theorem dX10_programOf_5 : decode cX10_programOf 5 = .ok (.ifCond .eq 12, 3) := by decide +kernel
theorem dX10_programOf_8 : decode cX10_programOf 8 = .ok (.iload_n 2, 1) := by decide +kernel
theorem dX10_programOf_9 : decode cX10_programOf 9 = .ok (.iconst 0, 1) := by decide +kernel
theorem dX10_programOf_10 : decode cX10_programOf 10 = .ok (.iconst 1, 1) := by decide +kernel
theorem dX10_programOf_11 : decode cX10_programOf 11 = .ok (.invokestatic 81, 3) := by decide +kernel
theorem dX10_programOf_14 : decode cX10_programOf 14 = .ok (.ifCond .ne 12, 3) := by decide +kernel
theorem dX10_programOf_17 : decode cX10_programOf 17 = .ok (.aload_n 0, 1) := by decide +kernel
theorem dX10_programOf_18 : decode cX10_programOf 18 = .ok (.getfield 12, 3) := by decide +kernel
theorem dX10_programOf_21 : decode cX10_programOf 21 = .ok (.iconst 0, 1) := by decide +kernel
theorem dX10_programOf_22 : decode cX10_programOf 22 = .ok (.invokevirtual 85, 3) := by decide +kernel
theorem dX10_programOf_25 : decode cX10_programOf 25 = .ok (.ireturn, 1) := by decide +kernel
theorem dX10_programOf_26 : decode cX10_programOf 26 = .ok (.iload_n 2, 1) := by decide +kernel
theorem dX10_programOf_27 : decode cX10_programOf 27 = .ok (.ifCond .ne 18, 3) := by decide +kernel
theorem dX10_programOf_30 : decode cX10_programOf 30 = .ok (.aload_n 0, 1) := by decide +kernel
theorem dX10_programOf_31 : decode cX10_programOf 31 = .ok (.getfield 19, 3) := by decide +kernel
theorem dX10_programOf_34 : decode cX10_programOf 34 = .ok (.getfield 200, 3) := by decide +kernel
theorem dX10_programOf_37 : decode cX10_programOf 37 = .ok (.getfield 216, 3) := by decide +kernel
theorem dX10_programOf_40 : decode cX10_programOf 40 = .ok (.iload_n 1, 1) := by decide +kernel
theorem dX10_programOf_41 : decode cX10_programOf 41 = .ok (.iaload, 1) := by decide +kernel
theorem dX10_programOf_42 : decode cX10_programOf 42 = .ok (.goto 14, 3) := by decide +kernel
theorem dX10_programOf_45 : decode cX10_programOf 45 = .ok (.aload_n 0, 1) := by decide +kernel
theorem dX10_programOf_46 : decode cX10_programOf 46 = .ok (.getfield 19, 3) := by decide +kernel
theorem dX10_programOf_49 : decode cX10_programOf 49 = .ok (.getfield 200, 3) := by decide +kernel
theorem dX10_programOf_52 : decode cX10_programOf 52 = .ok (.iload_n 1, 1) := by decide +kernel
theorem dX10_programOf_53 : decode cX10_programOf 53 = .ok (.invokevirtual 219, 3) := by decide +kernel
theorem dX10_programOf_56 : decode cX10_programOf 56 = .ok (.ireturn, 1) := by decide +kernel
theorem dX10_play_0 : decode cX10_play 0 = .ok (.aload_n 0, 1) := by decide +kernel
theorem dX10_play_1 : decode cX10_play 1 = .ok (.iload_n 1, 1) := by decide +kernel
theorem dX10_play_2 : decode cX10_play 2 = .ok (.invokevirtual 213, 3) := by decide +kernel
theorem dX10_play_5 : decode cX10_play 5 = .ok (.ifCond .ne 12, 3) := by decide +kernel
theorem dX10_play_8 : decode cX10_play 8 = .ok (.aload_n 0, 1) := by decide +kernel
theorem dX10_play_9 : decode cX10_play 9 = .ok (.getfield 12, 3) := by decide +kernel
theorem dX10_play_12 : decode cX10_play 12 = .ok (.iconst 0, 1) := by decide +kernel
theorem dX10_play_13 : decode cX10_play 13 = .ok (.invokevirtual 85, 3) := by decide +kernel
theorem dX10_play_16 : decode cX10_play 16 = .ok (.ireturn, 1) := by decide +kernel
theorem dX10_play_17 : decode cX10_play 17 = .ok (.aload_n 0, 1) := by decide +kernel
theorem dX10_play_18 : decode cX10_play 18 = .ok (.getfield 19, 3) := by decide +kernel
theorem dX10_play_21 : decode cX10_play 21 = .ok (.getfield 200, 3) := by decide +kernel
theorem dX10_play_24 : decode cX10_play 24 = .ok (.getfield 216, 3) := by decide +kernel
theorem dX10_play_27 : decode cX10_play 27 = .ok (.iload_n 1, 1) := by decide +kernel
theorem dX10_play_28 : decode cX10_play 28 = .ok (.iaload, 1) := by decide +kernel
theorem dX10_play_29 : decode cX10_play 29 = .ok (.istore_n 2, 1) := by decide +kernel
theorem dX10_play_30 : decode cX10_play 30 = .ok (.iconst 0, 1) := by decide +kernel
theorem dX10_play_31 : decode cX10_play 31 = .ok (.istore_n 3, 1) := by decide +kernel
theorem dX10_play_32 : decode cX10_play 32 = .ok (.iload_n 3, 1) := by decide +kernel
theorem dX10_play_33 : decode cX10_play 33 = .ok (.iload_n 2, 1) := by decide +kernel
theorem dX10_play_34 : decode cX10_play 34 = .ok (.if_icmp .ge 22, 3) := by decide +kernel
theorem dX10_play_37 : decode cX10_play 37 = .ok (.aload_n 0, 1) := by decide +kernel
theorem dX10_play_38 : decode cX10_play 38 = .ok (.getfield 19, 3) := by decide +kernel
theorem dX10_play_41 : decode cX10_play 41 = .ok (.iload_n 1, 1) := by decide +kernel
theorem dX10_play_42 : decode cX10_play 42 = .ok (.bipush 12, 2) := by decide +kernel
theorem dX10_play_44 : decode cX10_play 44 = .ok (.imul, 1) := by decide +kernel
theorem dX10_play_45 : decode cX10_play 45 = .ok (.iload_n 3, 1) := by decide +kernel
theorem dX10_play_46 : decode cX10_play 46 = .ok (.iadd, 1) := by decide +kernel
theorem dX10_play_47 : decode cX10_play 47 = .ok (.invokevirtual 222, 3) := by decide +kernel
theorem dX10_play_50 : decode cX10_play 50 = .ok (.iinc 3 1, 3) := by decide +kernel
theorem dX10_play_53 : decode cX10_play 53 = .ok (.goto (-21), 3) := by decide +kernel
theorem dX10_play_56 : decode cX10_play 56 = .ok (.aload_n 0, 1) := by decide +kernel
theorem dX10_play_57 : decode cX10_play 57 = .ok (.getfield 19, 3) := by decide +kernel
theorem dX10_play_60 : decode cX10_play 60 = .ok (.getfield 102, 3) := by decide +kernel
theorem dX10_play_63 : decode cX10_play 63 = .ok (.invokevirtual 174, 3) := by decide +kernel
theorem dX10_play_66 : decode cX10_play 66 = .ok (.ireturn, 1) := by decide +kernel
theorem dX10_path_0 : decode cX10_path 0 = .ok (.iload_n 1, 1) := by decide +kernel
theorem dX10_path_1 : decode cX10_path 1 = .ok (.iload_n 2, 1) := by decide +kernel
theorem dX10_path_2 : decode cX10_path 2 = .ok (.iload_n 3, 1) := by decide +kernel
theorem dX10_path_3 : decode cX10_path 3 = .ok (.invokestatic 145, 3) := by decide +kernel
theorem dX10_path_6 : decode cX10_path 6 = .ok (.ifCond .eq 13, 3) := by decide +kernel
theorem dX10_path_9 : decode cX10_path 9 = .ok (.iload 4, 2) := by decide +kernel
theorem dX10_path_11 : decode cX10_path 11 = .ok (.iconst 0, 1) := by decide +kernel
theorem dX10_path_12 : decode cX10_path 12 = .ok (.iconst 3, 1) := by decide +kernel
theorem dX10_path_13 : decode cX10_path 13 = .ok (.invokestatic 81, 3) := by decide +kernel
theorem dX10_path_16 : decode cX10_path 16 = .ok (.ifCond .ne 12, 3) := by decide +kernel
theorem dX10_path_19 : decode cX10_path 19 = .ok (.aload_n 0, 1) := by decide +kernel
theorem dX10_path_20 : decode cX10_path 20 = .ok (.getfield 12, 3) := by decide +kernel
theorem dX10_path_23 : decode cX10_path 23 = .ok (.iconst 0, 1) := by decide +kernel
theorem dX10_path_24 : decode cX10_path 24 = .ok (.invokevirtual 85, 3) := by decide +kernel
theorem dX10_path_27 : decode cX10_path 27 = .ok (.ireturn, 1) := by decide +kernel
theorem dX10_path_28 : decode cX10_path 28 = .ok (.aload_n 0, 1) := by decide +kernel
theorem dX10_path_29 : decode cX10_path 29 = .ok (.getfield 63, 3) := by decide +kernel
theorem dX10_path_32 : decode cX10_path 32 = .ok (.aload_n 0, 1) := by decide +kernel
theorem dX10_path_33 : decode cX10_path 33 = .ok (.getfield 19, 3) := by decide +kernel
theorem dX10_path_36 : decode cX10_path 36 = .ok (.getfield 89, 3) := by decide +kernel
theorem dX10_path_39 : decode cX10_path 39 = .ok (.iload_n 1, 1) := by decide +kernel
theorem dX10_path_40 : decode cX10_path 40 = .ok (.iload_n 2, 1) := by decide +kernel
theorem dX10_path_41 : decode cX10_path 41 = .ok (.iload_n 3, 1) := by decide +kernel
theorem dX10_path_42 : decode cX10_path 42 = .ok (.invokevirtual 225, 3) := by decide +kernel
theorem dX10_path_45 : decode cX10_path 45 = .ok (.iload 4, 2) := by decide +kernel
theorem dX10_path_47 : decode cX10_path 47 = .ok (.tableswitch 49 0 2 #[25, 33, 41], 25) := by decide +kernel
theorem dX10_path_72 : decode cX10_path 72 = .ok (.aload_n 0, 1) := by decide +kernel
theorem dX10_path_73 : decode cX10_path 73 = .ok (.getfield 63, 3) := by decide +kernel
theorem dX10_path_76 : decode cX10_path 76 = .ok (.getfield 229, 3) := by decide +kernel
theorem dX10_path_79 : decode cX10_path 79 = .ok (.ireturn, 1) := by decide +kernel
theorem dX10_path_80 : decode cX10_path 80 = .ok (.aload_n 0, 1) := by decide +kernel
theorem dX10_path_81 : decode cX10_path 81 = .ok (.getfield 63, 3) := by decide +kernel
theorem dX10_path_84 : decode cX10_path 84 = .ok (.getfield 232, 3) := by decide +kernel
theorem dX10_path_87 : decode cX10_path 87 = .ok (.ireturn, 1) := by decide +kernel
theorem dX10_path_88 : decode cX10_path 88 = .ok (.aload_n 0, 1) := by decide +kernel
theorem dX10_path_89 : decode cX10_path 89 = .ok (.getfield 63, 3) := by decide +kernel
theorem dX10_path_92 : decode cX10_path 92 = .ok (.invokevirtual 234, 3) := by decide +kernel
theorem dX10_path_95 : decode cX10_path 95 = .ok (.ireturn, 1) := by decide +kernel
theorem dX10_path_96 : decode cX10_path 96 = .ok (.aload_n 0, 1) := by decide +kernel
theorem dX10_path_97 : decode cX10_path 97 = .ok (.getfield 63, 3) := by decide +kernel
theorem dX10_path_100 : decode cX10_path 100 = .ok (.getfield 237, 3) := by decide +kernel
theorem dX10_path_103 : decode cX10_path 103 = .ok (.ireturn, 1) := by decide +kernel
theorem dX10_along_0 : decode cX10_along 0 = .ok (.iload_n 1, 1) := by decide +kernel
theorem dX10_along_1 : decode cX10_along 1 = .ok (.iload_n 2, 1) := by decide +kernel
theorem dX10_along_2 : decode cX10_along 2 = .ok (.iload_n 3, 1) := by decide +kernel
theorem dX10_along_3 : decode cX10_along 3 = .ok (.invokestatic 145, 3) := by decide +kernel
theorem dX10_along_6 : decode cX10_along 6 = .ok (.ifCond .eq 14, 3) := by decide +kernel
theorem dX10_along_9 : decode cX10_along 9 = .ok (.iload 4, 2) := by decide +kernel
theorem dX10_along_11 : decode cX10_along 11 = .ok (.iconst 0, 1) := by decide +kernel
theorem dX10_along_12 : decode cX10_along 12 = .ok (.bipush 64, 2) := by decide +kernel
theorem dX10_along_14 : decode cX10_along 14 = .ok (.invokestatic 81, 3) := by decide +kernel
theorem dX10_along_17 : decode cX10_along 17 = .ok (.ifCond .ne 12, 3) := by decide +kernel
theorem dX10_along_20 : decode cX10_along 20 = .ok (.aload_n 0, 1) := by decide +kernel
theorem dX10_along_21 : decode cX10_along 21 = .ok (.getfield 12, 3) := by decide +kernel
theorem dX10_along_24 : decode cX10_along 24 = .ok (.iconst 0, 1) := by decide +kernel
theorem dX10_along_25 : decode cX10_along 25 = .ok (.invokevirtual 85, 3) := by decide +kernel
theorem dX10_along_28 : decode cX10_along 28 = .ok (.ireturn, 1) := by decide +kernel
theorem dX10_along_29 : decode cX10_along 29 = .ok (.aload_n 0, 1) := by decide +kernel
theorem dX10_along_30 : decode cX10_along 30 = .ok (.getfield 63, 3) := by decide +kernel
theorem dX10_along_33 : decode cX10_along 33 = .ok (.aload_n 0, 1) := by decide +kernel
theorem dX10_along_34 : decode cX10_along 34 = .ok (.getfield 19, 3) := by decide +kernel
theorem dX10_along_37 : decode cX10_along 37 = .ok (.getfield 89, 3) := by decide +kernel
theorem dX10_along_40 : decode cX10_along 40 = .ok (.iload_n 1, 1) := by decide +kernel
theorem dX10_along_41 : decode cX10_along 41 = .ok (.iload_n 2, 1) := by decide +kernel
theorem dX10_along_42 : decode cX10_along 42 = .ok (.iload_n 3, 1) := by decide +kernel
theorem dX10_along_43 : decode cX10_along 43 = .ok (.invokevirtual 225, 3) := by decide +kernel
theorem dX10_along_46 : decode cX10_along 46 = .ok (.aload_n 0, 1) := by decide +kernel
theorem dX10_along_47 : decode cX10_along 47 = .ok (.getfield 63, 3) := by decide +kernel
theorem dX10_along_50 : decode cX10_along 50 = .ok (.iload 4, 2) := by decide +kernel
theorem dX10_along_52 : decode cX10_along 52 = .ok (.invokevirtual 239, 3) := by decide +kernel
theorem dX10_along_55 : decode cX10_along 55 = .ok (.istore 5, 2) := by decide +kernel
theorem dX10_along_57 : decode cX10_along 57 = .ok (.iload 5, 2) := by decide +kernel
theorem dX10_along_59 : decode cX10_along 59 = .ok (.bipush (-2), 2) := by decide +kernel
theorem dX10_along_61 : decode cX10_along 61 = .ok (.if_icmp .ne 14, 3) := by decide +kernel
theorem dX10_along_64 : decode cX10_along 64 = .ok (.aload_n 0, 1) := by decide +kernel
theorem dX10_along_65 : decode cX10_along 65 = .ok (.getfield 12, 3) := by decide +kernel
theorem dX10_along_68 : decode cX10_along 68 = .ok (.iconst 3, 1) := by decide +kernel
theorem dX10_along_69 : decode cX10_along 69 = .ok (.invokevirtual 85, 3) := by decide +kernel
theorem dX10_along_72 : decode cX10_along 72 = .ok (.goto 5, 3) := by decide +kernel
theorem dX10_along_75 : decode cX10_along 75 = .ok (.iload 5, 2) := by decide +kernel
theorem dX10_along_77 : decode cX10_along 77 = .ok (.ireturn, 1) := by decide +kernel
theorem dX10_least_0 : decode cX10_least 0 = .ok (.iload_n 1, 1) := by decide +kernel
theorem dX10_least_1 : decode cX10_least 1 = .ok (.invokestatic 242, 3) := by decide +kernel
theorem dX10_least_4 : decode cX10_least 4 = .ok (.ifCond .eq 10, 3) := by decide +kernel
theorem dX10_least_7 : decode cX10_least 7 = .ok (.iload_n 2, 1) := by decide +kernel
theorem dX10_least_8 : decode cX10_least 8 = .ok (.invokestatic 139, 3) := by decide +kernel
theorem dX10_least_11 : decode cX10_least 11 = .ok (.ifCond .ne 12, 3) := by decide +kernel
theorem dX10_least_14 : decode cX10_least 14 = .ok (.aload_n 0, 1) := by decide +kernel
theorem dX10_least_15 : decode cX10_least 15 = .ok (.getfield 12, 3) := by decide +kernel
theorem dX10_least_18 : decode cX10_least 18 = .ok (.iconst 0, 1) := by decide +kernel
theorem dX10_least_19 : decode cX10_least 19 = .ok (.invokevirtual 85, 3) := by decide +kernel
theorem dX10_least_22 : decode cX10_least 22 = .ok (.ireturn, 1) := by decide +kernel
theorem dX10_least_23 : decode cX10_least 23 = .ok (.aload_n 0, 1) := by decide +kernel
theorem dX10_least_24 : decode cX10_least 24 = .ok (.getfield 56, 3) := by decide +kernel
theorem dX10_least_27 : decode cX10_least 27 = .ok (.aload_n 0, 1) := by decide +kernel
theorem dX10_least_28 : decode cX10_least 28 = .ok (.getfield 19, 3) := by decide +kernel
theorem dX10_least_31 : decode cX10_least 31 = .ok (.getfield 89, 3) := by decide +kernel
theorem dX10_least_34 : decode cX10_least 34 = .ok (.invokevirtual 245, 3) := by decide +kernel
theorem dX10_least_37 : decode cX10_least 37 = .ok (.iload_n 3, 1) := by decide +kernel
theorem dX10_least_38 : decode cX10_least 38 = .ok (.ifCond .eq 14, 3) := by decide +kernel
theorem dX10_least_41 : decode cX10_least 41 = .ok (.aload_n 0, 1) := by decide +kernel
theorem dX10_least_42 : decode cX10_least 42 = .ok (.getfield 56, 3) := by decide +kernel
theorem dX10_least_45 : decode cX10_least 45 = .ok (.getfield 96, 3) := by decide +kernel
theorem dX10_least_48 : decode cX10_least 48 = .ok (.iconst 0, 1) := by decide +kernel
theorem dX10_least_49 : decode cX10_least 49 = .ok (.invokestatic 249, 3) := by decide +kernel
theorem dX10_least_52 : decode cX10_least 52 = .ok (.iconst 1, 1) := by decide +kernel
theorem dX10_least_53 : decode cX10_least 53 = .ok (.istore 4, 2) := by decide +kernel
theorem dX10_least_55 : decode cX10_least 55 = .ok (.iload 4, 2) := by decide +kernel
theorem dX10_least_57 : decode cX10_least 57 = .ok (.bipush 99, 2) := by decide +kernel
theorem dX10_least_59 : decode cX10_least 59 = .ok (.if_icmp .gt 37, 3) := by decide +kernel
theorem dX10_least_62 : decode cX10_least 62 = .ok (.aload_n 0, 1) := by decide +kernel
theorem dX10_least_63 : decode cX10_least 63 = .ok (.getfield 63, 3) := by decide +kernel
theorem dX10_least_66 : decode cX10_least 66 = .ok (.aload_n 0, 1) := by decide +kernel
theorem dX10_least_67 : decode cX10_least 67 = .ok (.getfield 56, 3) := by decide +kernel
theorem dX10_least_70 : decode cX10_least 70 = .ok (.iload_n 1, 1) := by decide +kernel
theorem dX10_least_71 : decode cX10_least 71 = .ok (.iload_n 2, 1) := by decide +kernel
theorem dX10_least_72 : decode cX10_least 72 = .ok (.iload 4, 2) := by decide +kernel
theorem dX10_least_74 : decode cX10_least 74 = .ok (.invokevirtual 225, 3) := by decide +kernel
theorem dX10_least_77 : decode cX10_least 77 = .ok (.aload_n 0, 1) := by decide +kernel
theorem dX10_least_78 : decode cX10_least 78 = .ok (.getfield 63, 3) := by decide +kernel
theorem dX10_least_81 : decode cX10_least 81 = .ok (.invokevirtual 255, 3) := by decide +kernel
theorem dX10_least_84 : decode cX10_least 84 = .ok (.ifCond .eq 6, 3) := by decide +kernel
theorem dX10_least_87 : decode cX10_least 87 = .ok (.iload 4, 2) := by decide +kernel
theorem dX10_least_89 : decode cX10_least 89 = .ok (.ireturn, 1) := by decide +kernel
theorem dX10_least_90 : decode cX10_least 90 = .ok (.iinc 4 1, 3) := by decide +kernel
theorem dX10_least_93 : decode cX10_least 93 = .ok (.goto (-38), 3) := by decide +kernel
theorem dX10_least_96 : decode cX10_least 96 = .ok (.aload_n 0, 1) := by decide +kernel
theorem dX10_least_97 : decode cX10_least 97 = .ok (.getfield 12, 3) := by decide +kernel
theorem dX10_least_100 : decode cX10_least 100 = .ok (.iconst 3, 1) := by decide +kernel
theorem dX10_least_101 : decode cX10_least 101 = .ok (.invokevirtual 85, 3) := by decide +kernel
theorem dX10_least_104 : decode cX10_least 104 = .ok (.ireturn, 1) := by decide +kernel
theorem dX10_basin_0 : decode cX10_basin 0 = .ok (.iload_n 1, 1) := by decide +kernel
theorem dX10_basin_1 : decode cX10_basin 1 = .ok (.iload_n 3, 1) := by decide +kernel
theorem dX10_basin_2 : decode cX10_basin 2 = .ok (.iload_n 2, 1) := by decide +kernel
theorem dX10_basin_3 : decode cX10_basin 3 = .ok (.invokestatic 145, 3) := by decide +kernel
theorem dX10_basin_6 : decode cX10_basin 6 = .ok (.ifCond .ne 12, 3) := by decide +kernel
theorem dX10_basin_9 : decode cX10_basin 9 = .ok (.aload_n 0, 1) := by decide +kernel
theorem dX10_basin_10 : decode cX10_basin 10 = .ok (.getfield 12, 3) := by decide +kernel
theorem dX10_basin_13 : decode cX10_basin 13 = .ok (.iconst 0, 1) := by decide +kernel
theorem dX10_basin_14 : decode cX10_basin 14 = .ok (.invokevirtual 85, 3) := by decide +kernel
theorem dX10_basin_17 : decode cX10_basin 17 = .ok (.ireturn, 1) := by decide +kernel
theorem dX10_basin_18 : decode cX10_basin 18 = .ok (.iconst 0, 1) := by decide +kernel
theorem dX10_basin_19 : decode cX10_basin 19 = .ok (.istore 4, 2) := by decide +kernel
theorem dX10_basin_21 : decode cX10_basin 21 = .ok (.iconst 0, 1) := by decide +kernel
theorem dX10_basin_22 : decode cX10_basin 22 = .ok (.istore 5, 2) := by decide +kernel
theorem dX10_basin_24 : decode cX10_basin 24 = .ok (.iload 5, 2) := by decide +kernel
theorem dX10_basin_26 : decode cX10_basin 26 = .ok (.bipush 12, 2) := by decide +kernel
theorem dX10_basin_28 : decode cX10_basin 28 = .ok (.if_icmp .ge 47, 3) := by decide +kernel
theorem dX10_basin_31 : decode cX10_basin 31 = .ok (.aload_n 0, 1) := by decide +kernel
theorem dX10_basin_32 : decode cX10_basin 32 = .ok (.getfield 63, 3) := by decide +kernel
theorem dX10_basin_35 : decode cX10_basin 35 = .ok (.aload_n 0, 1) := by decide +kernel
theorem dX10_basin_36 : decode cX10_basin 36 = .ok (.getfield 19, 3) := by decide +kernel
theorem dX10_basin_39 : decode cX10_basin 39 = .ok (.getfield 89, 3) := by decide +kernel
theorem dX10_basin_42 : decode cX10_basin 42 = .ok (.iload_n 1, 1) := by decide +kernel
theorem dX10_basin_43 : decode cX10_basin 43 = .ok (.iload 5, 2) := by decide +kernel
theorem dX10_basin_45 : decode cX10_basin 45 = .ok (.iload_n 2, 1) := by decide +kernel
theorem dX10_basin_46 : decode cX10_basin 46 = .ok (.invokevirtual 225, 3) := by decide +kernel
theorem dX10_basin_49 : decode cX10_basin 49 = .ok (.aload_n 0, 1) := by decide +kernel
theorem dX10_basin_50 : decode cX10_basin 50 = .ok (.getfield 63, 3) := by decide +kernel
theorem dX10_basin_53 : decode cX10_basin 53 = .ok (.getfield 229, 3) := by decide +kernel
theorem dX10_basin_56 : decode cX10_basin 56 = .ok (.iload_n 3, 1) := by decide +kernel
theorem dX10_basin_57 : decode cX10_basin 57 = .ok (.if_icmp .ne 12, 3) := by decide +kernel
theorem dX10_basin_60 : decode cX10_basin 60 = .ok (.iload 4, 2) := by decide +kernel
theorem dX10_basin_62 : decode cX10_basin 62 = .ok (.iconst 1, 1) := by decide +kernel
theorem dX10_basin_63 : decode cX10_basin 63 = .ok (.iload 5, 2) := by decide +kernel
theorem dX10_basin_65 : decode cX10_basin 65 = .ok (.ishl, 1) := by decide +kernel
theorem dX10_basin_66 : decode cX10_basin 66 = .ok (.ior, 1) := by decide +kernel
theorem dX10_basin_67 : decode cX10_basin 67 = .ok (.istore 4, 2) := by decide +kernel
theorem dX10_basin_69 : decode cX10_basin 69 = .ok (.iinc 5 1, 3) := by decide +kernel
theorem dX10_basin_72 : decode cX10_basin 72 = .ok (.goto (-48), 3) := by decide +kernel
theorem dX10_basin_75 : decode cX10_basin 75 = .ok (.iload 4, 2) := by decide +kernel
theorem dX10_basin_77 : decode cX10_basin 77 = .ok (.ireturn, 1) := by decide +kernel
theorem dX10_ways_0 : decode cX10_ways 0 = .ok (.iload_n 1, 1) := by decide +kernel
theorem dX10_ways_1 : decode cX10_ways 1 = .ok (.invokestatic 242, 3) := by decide +kernel
theorem dX10_ways_4 : decode cX10_ways 4 = .ok (.ifCond .eq 10, 3) := by decide +kernel
theorem dX10_ways_7 : decode cX10_ways 7 = .ok (.iload_n 2, 1) := by decide +kernel
theorem dX10_ways_8 : decode cX10_ways 8 = .ok (.invokestatic 181, 3) := by decide +kernel
theorem dX10_ways_11 : decode cX10_ways 11 = .ok (.ifCond .ne 12, 3) := by decide +kernel
theorem dX10_ways_14 : decode cX10_ways 14 = .ok (.aload_n 0, 1) := by decide +kernel
theorem dX10_ways_15 : decode cX10_ways 15 = .ok (.getfield 12, 3) := by decide +kernel
theorem dX10_ways_18 : decode cX10_ways 18 = .ok (.iconst 0, 1) := by decide +kernel
theorem dX10_ways_19 : decode cX10_ways 19 = .ok (.invokevirtual 85, 3) := by decide +kernel
theorem dX10_ways_22 : decode cX10_ways 22 = .ok (.ireturn, 1) := by decide +kernel
theorem dX10_ways_23 : decode cX10_ways 23 = .ok (.iconst 0, 1) := by decide +kernel
theorem dX10_ways_24 : decode cX10_ways 24 = .ok (.istore_n 3, 1) := by decide +kernel
theorem dX10_ways_25 : decode cX10_ways 25 = .ok (.iconst 0, 1) := by decide +kernel
theorem dX10_ways_26 : decode cX10_ways 26 = .ok (.istore 4, 2) := by decide +kernel
theorem dX10_ways_28 : decode cX10_ways 28 = .ok (.iload 4, 2) := by decide +kernel
theorem dX10_ways_30 : decode cX10_ways 30 = .ok (.bipush 12, 2) := by decide +kernel
theorem dX10_ways_32 : decode cX10_ways 32 = .ok (.if_icmp .ge 49, 3) := by decide +kernel
theorem dX10_ways_35 : decode cX10_ways 35 = .ok (.aload_n 0, 1) := by decide +kernel
theorem dX10_ways_36 : decode cX10_ways 36 = .ok (.getfield 63, 3) := by decide +kernel
theorem dX10_ways_39 : decode cX10_ways 39 = .ok (.aload_n 0, 1) := by decide +kernel
theorem dX10_ways_40 : decode cX10_ways 40 = .ok (.getfield 19, 3) := by decide +kernel
theorem dX10_ways_43 : decode cX10_ways 43 = .ok (.getfield 89, 3) := by decide +kernel
theorem dX10_ways_46 : decode cX10_ways 46 = .ok (.iload_n 1, 1) := by decide +kernel
theorem dX10_ways_47 : decode cX10_ways 47 = .ok (.iload 4, 2) := by decide +kernel
theorem dX10_ways_49 : decode cX10_ways 49 = .ok (.iload_n 2, 1) := by decide +kernel
theorem dX10_ways_50 : decode cX10_ways 50 = .ok (.invokevirtual 225, 3) := by decide +kernel
theorem dX10_ways_53 : decode cX10_ways 53 = .ok (.aload_n 0, 1) := by decide +kernel
theorem dX10_ways_54 : decode cX10_ways 54 = .ok (.getfield 63, 3) := by decide +kernel
theorem dX10_ways_57 : decode cX10_ways 57 = .ok (.invokevirtual 255, 3) := by decide +kernel
theorem dX10_ways_60 : decode cX10_ways 60 = .ok (.ifCond .eq 15, 3) := by decide +kernel
theorem dX10_ways_63 : decode cX10_ways 63 = .ok (.iload_n 3, 1) := by decide +kernel
theorem dX10_ways_64 : decode cX10_ways 64 = .ok (.iconst 1, 1) := by decide +kernel
theorem dX10_ways_65 : decode cX10_ways 65 = .ok (.aload_n 0, 1) := by decide +kernel
theorem dX10_ways_66 : decode cX10_ways 66 = .ok (.getfield 63, 3) := by decide +kernel
theorem dX10_ways_69 : decode cX10_ways 69 = .ok (.getfield 229, 3) := by decide +kernel
theorem dX10_ways_72 : decode cX10_ways 72 = .ok (.ishl, 1) := by decide +kernel
theorem dX10_ways_73 : decode cX10_ways 73 = .ok (.ior, 1) := by decide +kernel
theorem dX10_ways_74 : decode cX10_ways 74 = .ok (.istore_n 3, 1) := by decide +kernel
theorem dX10_ways_75 : decode cX10_ways 75 = .ok (.iinc 4 1, 3) := by decide +kernel
theorem dX10_ways_78 : decode cX10_ways 78 = .ok (.goto (-50), 3) := by decide +kernel
theorem dX10_ways_81 : decode cX10_ways 81 = .ok (.iload_n 3, 1) := by decide +kernel
theorem dX10_ways_82 : decode cX10_ways 82 = .ok (.ireturn, 1) := by decide +kernel
theorem dX10_soonest_0 : decode cX10_soonest 0 = .ok (.iload_n 1, 1) := by decide +kernel
theorem dX10_soonest_1 : decode cX10_soonest 1 = .ok (.iload_n 2, 1) := by decide +kernel
theorem dX10_soonest_2 : decode cX10_soonest 2 = .ok (.iload_n 3, 1) := by decide +kernel
theorem dX10_soonest_3 : decode cX10_soonest 3 = .ok (.invokestatic 145, 3) := by decide +kernel
theorem dX10_soonest_6 : decode cX10_soonest 6 = .ok (.ifCond .ne 12, 3) := by decide +kernel
theorem dX10_soonest_9 : decode cX10_soonest 9 = .ok (.aload_n 0, 1) := by decide +kernel
theorem dX10_soonest_10 : decode cX10_soonest 10 = .ok (.getfield 12, 3) := by decide +kernel
theorem dX10_soonest_13 : decode cX10_soonest 13 = .ok (.iconst 0, 1) := by decide +kernel
theorem dX10_soonest_14 : decode cX10_soonest 14 = .ok (.invokevirtual 85, 3) := by decide +kernel
theorem dX10_soonest_17 : decode cX10_soonest 17 = .ok (.ireturn, 1) := by decide +kernel
theorem dX10_soonest_18 : decode cX10_soonest 18 = .ok (.aload_n 0, 1) := by decide +kernel
theorem dX10_soonest_19 : decode cX10_soonest 19 = .ok (.getfield 56, 3) := by decide +kernel
theorem dX10_soonest_22 : decode cX10_soonest 22 = .ok (.aload_n 0, 1) := by decide +kernel
theorem dX10_soonest_23 : decode cX10_soonest 23 = .ok (.getfield 19, 3) := by decide +kernel
theorem dX10_soonest_26 : decode cX10_soonest 26 = .ok (.getfield 89, 3) := by decide +kernel
theorem dX10_soonest_29 : decode cX10_soonest 29 = .ok (.invokevirtual 245, 3) := by decide +kernel
theorem dX10_soonest_32 : decode cX10_soonest 32 = .ok (.iconst (-1), 1) := by decide +kernel
theorem dX10_soonest_33 : decode cX10_soonest 33 = .ok (.istore 4, 2) := by decide +kernel
theorem dX10_soonest_35 : decode cX10_soonest 35 = .ok (.bipush 65, 2) := by decide +kernel
theorem dX10_soonest_37 : decode cX10_soonest 37 = .ok (.istore 5, 2) := by decide +kernel
theorem dX10_soonest_39 : decode cX10_soonest 39 = .ok (.iconst 0, 1) := by decide +kernel
theorem dX10_soonest_40 : decode cX10_soonest 40 = .ok (.istore 6, 2) := by decide +kernel
theorem dX10_soonest_42 : decode cX10_soonest 42 = .ok (.iload 6, 2) := by decide +kernel
theorem dX10_soonest_44 : decode cX10_soonest 44 = .ok (.bipush 9, 2) := by decide +kernel
theorem dX10_soonest_46 : decode cX10_soonest 46 = .ok (.if_icmp .gt 67, 3) := by decide +kernel
theorem dX10_soonest_49 : decode cX10_soonest 49 = .ok (.aload_n 0, 1) := by decide +kernel
theorem dX10_soonest_50 : decode cX10_soonest 50 = .ok (.getfield 56, 3) := by decide +kernel
theorem dX10_soonest_53 : decode cX10_soonest 53 = .ok (.iload 6, 2) := by decide +kernel
theorem dX10_soonest_55 : decode cX10_soonest 55 = .ok (.putfield 115, 3) := by decide +kernel
theorem dX10_soonest_58 : decode cX10_soonest 58 = .ok (.aload_n 0, 1) := by decide +kernel
theorem dX10_soonest_59 : decode cX10_soonest 59 = .ok (.getfield 63, 3) := by decide +kernel
theorem dX10_soonest_62 : decode cX10_soonest 62 = .ok (.aload_n 0, 1) := by decide +kernel
theorem dX10_soonest_63 : decode cX10_soonest 63 = .ok (.getfield 56, 3) := by decide +kernel
theorem dX10_soonest_66 : decode cX10_soonest 66 = .ok (.iload_n 1, 1) := by decide +kernel
theorem dX10_soonest_67 : decode cX10_soonest 67 = .ok (.iload_n 2, 1) := by decide +kernel
theorem dX10_soonest_68 : decode cX10_soonest 68 = .ok (.iload_n 3, 1) := by decide +kernel
theorem dX10_soonest_69 : decode cX10_soonest 69 = .ok (.invokevirtual 225, 3) := by decide +kernel
theorem dX10_soonest_72 : decode cX10_soonest 72 = .ok (.aload_n 0, 1) := by decide +kernel
theorem dX10_soonest_73 : decode cX10_soonest 73 = .ok (.getfield 63, 3) := by decide +kernel
theorem dX10_soonest_76 : decode cX10_soonest 76 = .ok (.invokevirtual 255, 3) := by decide +kernel
theorem dX10_soonest_79 : decode cX10_soonest 79 = .ok (.ifCond .eq 28, 3) := by decide +kernel
theorem dX10_soonest_82 : decode cX10_soonest 82 = .ok (.aload_n 0, 1) := by decide +kernel
theorem dX10_soonest_83 : decode cX10_soonest 83 = .ok (.getfield 63, 3) := by decide +kernel
theorem dX10_soonest_86 : decode cX10_soonest 86 = .ok (.getfield 232, 3) := by decide +kernel
theorem dX10_soonest_89 : decode cX10_soonest 89 = .ok (.iload 5, 2) := by decide +kernel
theorem dX10_soonest_91 : decode cX10_soonest 91 = .ok (.if_icmp .ge 16, 3) := by decide +kernel
theorem dX10_soonest_94 : decode cX10_soonest 94 = .ok (.aload_n 0, 1) := by decide +kernel
theorem dX10_soonest_95 : decode cX10_soonest 95 = .ok (.getfield 63, 3) := by decide +kernel
theorem dX10_soonest_98 : decode cX10_soonest 98 = .ok (.getfield 232, 3) := by decide +kernel
theorem dX10_soonest_101 : decode cX10_soonest 101 = .ok (.istore 5, 2) := by decide +kernel
theorem dX10_soonest_103 : decode cX10_soonest 103 = .ok (.iload 6, 2) := by decide +kernel
theorem dX10_soonest_105 : decode cX10_soonest 105 = .ok (.istore 4, 2) := by decide +kernel
theorem dX10_soonest_107 : decode cX10_soonest 107 = .ok (.iinc 6 1, 3) := by decide +kernel
theorem dX10_soonest_110 : decode cX10_soonest 110 = .ok (.goto (-68), 3) := by decide +kernel
theorem dX10_soonest_113 : decode cX10_soonest 113 = .ok (.iload 4, 2) := by decide +kernel
theorem dX10_soonest_115 : decode cX10_soonest 115 = .ok (.iconst (-1), 1) := by decide +kernel
theorem dX10_soonest_116 : decode cX10_soonest 116 = .ok (.if_icmp .ne 14, 3) := by decide +kernel
theorem dX10_soonest_119 : decode cX10_soonest 119 = .ok (.aload_n 0, 1) := by decide +kernel
theorem dX10_soonest_120 : decode cX10_soonest 120 = .ok (.getfield 12, 3) := by decide +kernel
theorem dX10_soonest_123 : decode cX10_soonest 123 = .ok (.iconst 3, 1) := by decide +kernel
theorem dX10_soonest_124 : decode cX10_soonest 124 = .ok (.invokevirtual 85, 3) := by decide +kernel
theorem dX10_soonest_127 : decode cX10_soonest 127 = .ok (.goto 5, 3) := by decide +kernel
theorem dX10_soonest_130 : decode cX10_soonest 130 = .ok (.iload 4, 2) := by decide +kernel
theorem dX10_soonest_132 : decode cX10_soonest 132 = .ok (.ireturn, 1) := by decide +kernel
theorem dX10_meet_0 : decode cX10_meet 0 = .ok (.iload_n 1, 1) := by decide +kernel
theorem dX10_meet_1 : decode cX10_meet 1 = .ok (.iload_n 2, 1) := by decide +kernel
theorem dX10_meet_2 : decode cX10_meet 2 = .ok (.iload 4, 2) := by decide +kernel
theorem dX10_meet_4 : decode cX10_meet 4 = .ok (.invokestatic 145, 3) := by decide +kernel
theorem dX10_meet_7 : decode cX10_meet 7 = .ok (.ifCond .eq 15, 3) := by decide +kernel
theorem dX10_meet_10 : decode cX10_meet 10 = .ok (.iload_n 3, 1) := by decide +kernel
theorem dX10_meet_11 : decode cX10_meet 11 = .ok (.invokestatic 139, 3) := by decide +kernel
theorem dX10_meet_14 : decode cX10_meet 14 = .ok (.ifCond .eq 8, 3) := by decide +kernel
theorem dX10_meet_17 : decode cX10_meet 17 = .ok (.iload_n 2, 1) := by decide +kernel
theorem dX10_meet_18 : decode cX10_meet 18 = .ok (.iload_n 3, 1) := by decide +kernel
theorem dX10_meet_19 : decode cX10_meet 19 = .ok (.if_icmp .ne 12, 3) := by decide +kernel
theorem dX10_meet_22 : decode cX10_meet 22 = .ok (.aload_n 0, 1) := by decide +kernel
theorem dX10_meet_23 : decode cX10_meet 23 = .ok (.getfield 12, 3) := by decide +kernel
theorem dX10_meet_26 : decode cX10_meet 26 = .ok (.iconst 0, 1) := by decide +kernel
theorem dX10_meet_27 : decode cX10_meet 27 = .ok (.invokevirtual 85, 3) := by decide +kernel
theorem dX10_meet_30 : decode cX10_meet 30 = .ok (.ireturn, 1) := by decide +kernel
theorem dX10_meet_31 : decode cX10_meet 31 = .ok (.aload_n 0, 1) := by decide +kernel
theorem dX10_meet_32 : decode cX10_meet 32 = .ok (.getfield 63, 3) := by decide +kernel
theorem dX10_meet_35 : decode cX10_meet 35 = .ok (.aload_n 0, 1) := by decide +kernel
theorem dX10_meet_36 : decode cX10_meet 36 = .ok (.getfield 19, 3) := by decide +kernel
theorem dX10_meet_39 : decode cX10_meet 39 = .ok (.getfield 89, 3) := by decide +kernel
theorem dX10_meet_42 : decode cX10_meet 42 = .ok (.iload_n 1, 1) := by decide +kernel
theorem dX10_meet_43 : decode cX10_meet 43 = .ok (.iload_n 2, 1) := by decide +kernel
theorem dX10_meet_44 : decode cX10_meet 44 = .ok (.iload 4, 2) := by decide +kernel
theorem dX10_meet_46 : decode cX10_meet 46 = .ok (.invokevirtual 225, 3) := by decide +kernel
theorem dX10_meet_49 : decode cX10_meet 49 = .ok (.aload_n 0, 1) := by decide +kernel
theorem dX10_meet_50 : decode cX10_meet 50 = .ok (.getfield 67, 3) := by decide +kernel
theorem dX10_meet_53 : decode cX10_meet 53 = .ok (.aload_n 0, 1) := by decide +kernel
theorem dX10_meet_54 : decode cX10_meet 54 = .ok (.getfield 19, 3) := by decide +kernel
theorem dX10_meet_57 : decode cX10_meet 57 = .ok (.getfield 89, 3) := by decide +kernel
theorem dX10_meet_60 : decode cX10_meet 60 = .ok (.iload_n 1, 1) := by decide +kernel
theorem dX10_meet_61 : decode cX10_meet 61 = .ok (.iload_n 3, 1) := by decide +kernel
theorem dX10_meet_62 : decode cX10_meet 62 = .ok (.iload 4, 2) := by decide +kernel
theorem dX10_meet_64 : decode cX10_meet 64 = .ok (.invokevirtual 225, 3) := by decide +kernel
theorem dX10_meet_67 : decode cX10_meet 67 = .ok (.iconst 0, 1) := by decide +kernel
theorem dX10_meet_68 : decode cX10_meet 68 = .ok (.istore 5, 2) := by decide +kernel
theorem dX10_meet_70 : decode cX10_meet 70 = .ok (.iload 5, 2) := by decide +kernel
theorem dX10_meet_72 : decode cX10_meet 72 = .ok (.bipush 64, 2) := by decide +kernel
theorem dX10_meet_74 : decode cX10_meet 74 = .ok (.if_icmp .gt 44, 3) := by decide +kernel
theorem dX10_meet_77 : decode cX10_meet 77 = .ok (.aload_n 0, 1) := by decide +kernel
theorem dX10_meet_78 : decode cX10_meet 78 = .ok (.getfield 63, 3) := by decide +kernel
theorem dX10_meet_81 : decode cX10_meet 81 = .ok (.iload 5, 2) := by decide +kernel
theorem dX10_meet_83 : decode cX10_meet 83 = .ok (.invokevirtual 239, 3) := by decide +kernel
theorem dX10_meet_86 : decode cX10_meet 86 = .ok (.istore 6, 2) := by decide +kernel
theorem dX10_meet_88 : decode cX10_meet 88 = .ok (.iload 6, 2) := by decide +kernel
theorem dX10_meet_90 : decode cX10_meet 90 = .ok (.bipush (-2), 2) := by decide +kernel
theorem dX10_meet_92 : decode cX10_meet 92 = .ok (.if_icmp .eq 20, 3) := by decide +kernel
theorem dX10_meet_95 : decode cX10_meet 95 = .ok (.iload 6, 2) := by decide +kernel
theorem dX10_meet_97 : decode cX10_meet 97 = .ok (.aload_n 0, 1) := by decide +kernel
theorem dX10_meet_98 : decode cX10_meet 98 = .ok (.getfield 67, 3) := by decide +kernel
theorem dX10_meet_101 : decode cX10_meet 101 = .ok (.iload 5, 2) := by decide +kernel
theorem dX10_meet_103 : decode cX10_meet 103 = .ok (.invokevirtual 239, 3) := by decide +kernel
theorem dX10_meet_106 : decode cX10_meet 106 = .ok (.if_icmp .ne 6, 3) := by decide +kernel
theorem dX10_meet_109 : decode cX10_meet 109 = .ok (.iload 5, 2) := by decide +kernel
theorem dX10_meet_111 : decode cX10_meet 111 = .ok (.ireturn, 1) := by decide +kernel
theorem dX10_meet_112 : decode cX10_meet 112 = .ok (.iinc 5 1, 3) := by decide +kernel
theorem dX10_meet_115 : decode cX10_meet 115 = .ok (.goto (-45), 3) := by decide +kernel
theorem dX10_meet_118 : decode cX10_meet 118 = .ok (.aload_n 0, 1) := by decide +kernel
theorem dX10_meet_119 : decode cX10_meet 119 = .ok (.getfield 12, 3) := by decide +kernel
theorem dX10_meet_122 : decode cX10_meet 122 = .ok (.iconst 3, 1) := by decide +kernel
theorem dX10_meet_123 : decode cX10_meet 123 = .ok (.invokevirtual 85, 3) := by decide +kernel
theorem dX10_meet_126 : decode cX10_meet 126 = .ok (.ireturn, 1) := by decide +kernel
theorem dX10_edge_0 : decode cX10_edge 0 = .ok (.iload_n 1, 1) := by decide +kernel
theorem dX10_edge_1 : decode cX10_edge 1 = .ok (.invokestatic 77, 3) := by decide +kernel
theorem dX10_edge_4 : decode cX10_edge 4 = .ok (.ifCond .eq 17, 3) := by decide +kernel
theorem dX10_edge_7 : decode cX10_edge 7 = .ok (.iload_n 2, 1) := by decide +kernel
theorem dX10_edge_8 : decode cX10_edge 8 = .ok (.invokestatic 242, 3) := by decide +kernel
theorem dX10_edge_11 : decode cX10_edge 11 = .ok (.ifCond .eq 10, 3) := by decide +kernel
theorem dX10_edge_14 : decode cX10_edge 14 = .ok (.iload_n 3, 1) := by decide +kernel
theorem dX10_edge_15 : decode cX10_edge 15 = .ok (.invokestatic 139, 3) := by decide +kernel
theorem dX10_edge_18 : decode cX10_edge 18 = .ok (.ifCond .ne 12, 3) := by decide +kernel
theorem dX10_edge_21 : decode cX10_edge 21 = .ok (.aload_n 0, 1) := by decide +kernel
theorem dX10_edge_22 : decode cX10_edge 22 = .ok (.getfield 12, 3) := by decide +kernel
theorem dX10_edge_25 : decode cX10_edge 25 = .ok (.iconst 0, 1) := by decide +kernel
theorem dX10_edge_26 : decode cX10_edge 26 = .ok (.invokevirtual 85, 3) := by decide +kernel
theorem dX10_edge_29 : decode cX10_edge 29 = .ok (.ireturn, 1) := by decide +kernel
theorem dX10_edge_30 : decode cX10_edge 30 = .ok (.aload_n 0, 1) := by decide +kernel
theorem dX10_edge_31 : decode cX10_edge 31 = .ok (.getfield 56, 3) := by decide +kernel
theorem dX10_edge_34 : decode cX10_edge 34 = .ok (.aload_n 0, 1) := by decide +kernel
theorem dX10_edge_35 : decode cX10_edge 35 = .ok (.getfield 19, 3) := by decide +kernel
theorem dX10_edge_38 : decode cX10_edge 38 = .ok (.getfield 89, 3) := by decide +kernel
theorem dX10_edge_41 : decode cX10_edge 41 = .ok (.invokevirtual 245, 3) := by decide +kernel
theorem dX10_edge_44 : decode cX10_edge 44 = .ok (.bipush 9, 2) := by decide +kernel
theorem dX10_edge_46 : decode cX10_edge 46 = .ok (.istore 4, 2) := by decide +kernel
theorem dX10_edge_48 : decode cX10_edge 48 = .ok (.iload 4, 2) := by decide +kernel
theorem dX10_edge_50 : decode cX10_edge 50 = .ok (.ifCond .lt 48, 3) := by decide +kernel
theorem dX10_edge_53 : decode cX10_edge 53 = .ok (.aload_n 0, 1) := by decide +kernel
theorem dX10_edge_54 : decode cX10_edge 54 = .ok (.getfield 56, 3) := by decide +kernel
theorem dX10_edge_57 : decode cX10_edge 57 = .ok (.getfield 92, 3) := by decide +kernel
theorem dX10_edge_60 : decode cX10_edge 60 = .ok (.iload_n 1, 1) := by decide +kernel
theorem dX10_edge_61 : decode cX10_edge 61 = .ok (.iload 4, 2) := by decide +kernel
theorem dX10_edge_63 : decode cX10_edge 63 = .ok (.iastore, 1) := by decide +kernel
theorem dX10_edge_64 : decode cX10_edge 64 = .ok (.aload_n 0, 1) := by decide +kernel
theorem dX10_edge_65 : decode cX10_edge 65 = .ok (.getfield 63, 3) := by decide +kernel
theorem dX10_edge_68 : decode cX10_edge 68 = .ok (.aload_n 0, 1) := by decide +kernel
theorem dX10_edge_69 : decode cX10_edge 69 = .ok (.getfield 56, 3) := by decide +kernel
theorem dX10_edge_72 : decode cX10_edge 72 = .ok (.iload_n 2, 1) := by decide +kernel
theorem dX10_edge_73 : decode cX10_edge 73 = .ok (.iload_n 3, 1) := by decide +kernel
theorem dX10_edge_74 : decode cX10_edge 74 = .ok (.bipush 20, 2) := by decide +kernel
theorem dX10_edge_76 : decode cX10_edge 76 = .ok (.invokevirtual 225, 3) := by decide +kernel
theorem dX10_edge_79 : decode cX10_edge 79 = .ok (.aload_n 0, 1) := by decide +kernel
theorem dX10_edge_80 : decode cX10_edge 80 = .ok (.getfield 63, 3) := by decide +kernel
theorem dX10_edge_83 : decode cX10_edge 83 = .ok (.invokevirtual 255, 3) := by decide +kernel
theorem dX10_edge_86 : decode cX10_edge 86 = .ok (.ifCond .eq 6, 3) := by decide +kernel
theorem dX10_edge_89 : decode cX10_edge 89 = .ok (.iload 4, 2) := by decide +kernel
theorem dX10_edge_91 : decode cX10_edge 91 = .ok (.ireturn, 1) := by decide +kernel
theorem dX10_edge_92 : decode cX10_edge 92 = .ok (.iinc 4 (-1), 3) := by decide +kernel
theorem dX10_edge_95 : decode cX10_edge 95 = .ok (.goto (-47), 3) := by decide +kernel
theorem dX10_edge_98 : decode cX10_edge 98 = .ok (.aload_n 0, 1) := by decide +kernel
theorem dX10_edge_99 : decode cX10_edge 99 = .ok (.getfield 12, 3) := by decide +kernel
theorem dX10_edge_102 : decode cX10_edge 102 = .ok (.iconst 3, 1) := by decide +kernel
theorem dX10_edge_103 : decode cX10_edge 103 = .ok (.invokevirtual 85, 3) := by decide +kernel
theorem dX10_edge_106 : decode cX10_edge 106 = .ok (.ireturn, 1) := by decide +kernel
theorem dX10_soft_0 : decode cX10_soft 0 = .ok (.iload_n 1, 1) := by decide +kernel
theorem dX10_soft_1 : decode cX10_soft 1 = .ok (.iconst 0, 1) := by decide +kernel
theorem dX10_soft_2 : decode cX10_soft 2 = .ok (.iconst 2, 1) := by decide +kernel
theorem dX10_soft_3 : decode cX10_soft 3 = .ok (.invokestatic 81, 3) := by decide +kernel
theorem dX10_soft_6 : decode cX10_soft 6 = .ok (.ifCond .ne 12, 3) := by decide +kernel
theorem dX10_soft_9 : decode cX10_soft 9 = .ok (.aload_n 0, 1) := by decide +kernel
theorem dX10_soft_10 : decode cX10_soft 10 = .ok (.getfield 12, 3) := by decide +kernel
theorem dX10_soft_13 : decode cX10_soft 13 = .ok (.iconst 0, 1) := by decide +kernel
theorem dX10_soft_14 : decode cX10_soft 14 = .ok (.invokevirtual 85, 3) := by decide +kernel
theorem dX10_soft_17 : decode cX10_soft 17 = .ok (.ireturn, 1) := by decide +kernel
theorem dX10_soft_18 : decode cX10_soft 18 = .ok (.aload_n 0, 1) := by decide +kernel
theorem dX10_soft_19 : decode cX10_soft 19 = .ok (.getfield 73, 3) := by decide +kernel
theorem dX10_soft_22 : decode cX10_soft 22 = .ok (.aload_n 0, 1) := by decide +kernel
theorem dX10_soft_23 : decode cX10_soft 23 = .ok (.getfield 19, 3) := by decide +kernel
theorem dX10_soft_26 : decode cX10_soft 26 = .ok (.getfield 89, 3) := by decide +kernel
theorem dX10_soft_29 : decode cX10_soft 29 = .ok (.iconst 1, 1) := by decide +kernel
theorem dX10_soft_30 : decode cX10_soft 30 = .ok (.invokevirtual 259, 3) := by decide +kernel
theorem dX10_soft_33 : decode cX10_soft 33 = .ok (.aload_n 0, 1) := by decide +kernel
theorem dX10_soft_34 : decode cX10_soft 34 = .ok (.getfield 73, 3) := by decide +kernel
theorem dX10_soft_37 : decode cX10_soft 37 = .ok (.invokevirtual 263, 3) := by decide +kernel
theorem dX10_soft_40 : decode cX10_soft 40 = .ok (.istore_n 2, 1) := by decide +kernel
theorem dX10_soft_41 : decode cX10_soft 41 = .ok (.iload_n 1, 1) := by decide +kernel
theorem dX10_soft_42 : decode cX10_soft 42 = .ok (.lookupswitch 38 #[(0, 26), (1, 36)], 26) := by decide +kernel
theorem dX10_soft_68 : decode cX10_soft 68 = .ok (.aload_n 0, 1) := by decide +kernel
theorem dX10_soft_69 : decode cX10_soft 69 = .ok (.getfield 73, 3) := by decide +kernel
theorem dX10_soft_72 : decode cX10_soft 72 = .ok (.getfield 266, 3) := by decide +kernel
theorem dX10_soft_75 : decode cX10_soft 75 = .ok (.iload_n 2, 1) := by decide +kernel
theorem dX10_soft_76 : decode cX10_soft 76 = .ok (.iaload, 1) := by decide +kernel
theorem dX10_soft_77 : decode cX10_soft 77 = .ok (.ireturn, 1) := by decide +kernel
theorem dX10_soft_78 : decode cX10_soft 78 = .ok (.iload_n 2, 1) := by decide +kernel
theorem dX10_soft_79 : decode cX10_soft 79 = .ok (.ireturn, 1) := by decide +kernel
theorem dX10_soft_80 : decode cX10_soft 80 = .ok (.aload_n 0, 1) := by decide +kernel
theorem dX10_soft_81 : decode cX10_soft 81 = .ok (.getfield 73, 3) := by decide +kernel
theorem dX10_soft_84 : decode cX10_soft 84 = .ok (.aload_n 0, 1) := by decide +kernel
theorem dX10_soft_85 : decode cX10_soft 85 = .ok (.getfield 19, 3) := by decide +kernel
theorem dX10_soft_88 : decode cX10_soft 88 = .ok (.getfield 89, 3) := by decide +kernel
theorem dX10_soft_91 : decode cX10_soft 91 = .ok (.iload_n 2, 1) := by decide +kernel
theorem dX10_soft_92 : decode cX10_soft 92 = .ok (.invokevirtual 269, 3) := by decide +kernel
theorem dX10_soft_95 : decode cX10_soft 95 = .ok (.ireturn, 1) := by decide +kernel
theorem dX10_need_0 : decode cX10_need 0 = .ok (.aload_n 0, 1) := by decide +kernel
theorem dX10_need_1 : decode cX10_need 1 = .ok (.getfield 73, 3) := by decide +kernel
theorem dX10_need_4 : decode cX10_need 4 = .ok (.aload_n 0, 1) := by decide +kernel
theorem dX10_need_5 : decode cX10_need 5 = .ok (.getfield 19, 3) := by decide +kernel
theorem dX10_need_8 : decode cX10_need 8 = .ok (.getfield 89, 3) := by decide +kernel
theorem dX10_need_11 : decode cX10_need 11 = .ok (.iconst 0, 1) := by decide +kernel
theorem dX10_need_12 : decode cX10_need 12 = .ok (.invokevirtual 259, 3) := by decide +kernel
theorem dX10_need_15 : decode cX10_need 15 = .ok (.aload_n 0, 1) := by decide +kernel
theorem dX10_need_16 : decode cX10_need 16 = .ok (.getfield 73, 3) := by decide +kernel
theorem dX10_need_19 : decode cX10_need 19 = .ok (.getfield 266, 3) := by decide +kernel
theorem dX10_need_22 : decode cX10_need 22 = .ok (.aload_n 0, 1) := by decide +kernel
theorem dX10_need_23 : decode cX10_need 23 = .ok (.getfield 73, 3) := by decide +kernel
theorem dX10_need_26 : decode cX10_need 26 = .ok (.invokevirtual 263, 3) := by decide +kernel
theorem dX10_need_29 : decode cX10_need 29 = .ok (.iaload, 1) := by decide +kernel
theorem dX10_need_30 : decode cX10_need 30 = .ok (.ireturn, 1) := by decide +kernel
theorem dX10_open_0 : decode cX10_open 0 = .ok (.iload_n 1, 1) := by decide +kernel
theorem dX10_open_1 : decode cX10_open 1 = .ok (.invokestatic 133, 3) := by decide +kernel
theorem dX10_open_4 : decode cX10_open 4 = .ok (.ifCond .eq 10, 3) := by decide +kernel
theorem dX10_open_7 : decode cX10_open 7 = .ok (.iload_n 2, 1) := by decide +kernel
theorem dX10_open_8 : decode cX10_open 8 = .ok (.invokestatic 181, 3) := by decide +kernel
theorem dX10_open_11 : decode cX10_open 11 = .ok (.ifCond .ne 12, 3) := by decide +kernel
theorem dX10_open_14 : decode cX10_open 14 = .ok (.aload_n 0, 1) := by decide +kernel
theorem dX10_open_15 : decode cX10_open 15 = .ok (.getfield 12, 3) := by decide +kernel
theorem dX10_open_18 : decode cX10_open 18 = .ok (.iconst 0, 1) := by decide +kernel
theorem dX10_open_19 : decode cX10_open 19 = .ok (.invokevirtual 85, 3) := by decide +kernel
theorem dX10_open_22 : decode cX10_open 22 = .ok (.ireturn, 1) := by decide +kernel
theorem dX10_open_23 : decode cX10_open 23 = .ok (.iload_n 2, 1) := by decide +kernel
theorem dX10_open_24 : decode cX10_open 24 = .ok (.aload_n 0, 1) := by decide +kernel
theorem dX10_open_25 : decode cX10_open 25 = .ok (.getfield 19, 3) := by decide +kernel
theorem dX10_open_28 : decode cX10_open 28 = .ok (.getfield 89, 3) := by decide +kernel
theorem dX10_open_31 : decode cX10_open 31 = .ok (.getfield 115, 3) := by decide +kernel
theorem dX10_open_34 : decode cX10_open 34 = .ok (.iadd, 1) := by decide +kernel
theorem dX10_open_35 : decode cX10_open 35 = .ok (.istore_n 3, 1) := by decide +kernel
theorem dX10_open_36 : decode cX10_open 36 = .ok (.iconst 0, 1) := by decide +kernel
theorem dX10_open_37 : decode cX10_open 37 = .ok (.istore 4, 2) := by decide +kernel
theorem dX10_open_39 : decode cX10_open 39 = .ok (.iconst 0, 1) := by decide +kernel
theorem dX10_open_40 : decode cX10_open 40 = .ok (.istore 5, 2) := by decide +kernel
theorem dX10_open_42 : decode cX10_open 42 = .ok (.iload 5, 2) := by decide +kernel
theorem dX10_open_44 : decode cX10_open 44 = .ok (.bipush 12, 2) := by decide +kernel
theorem dX10_open_46 : decode cX10_open 46 = .ok (.if_icmp .ge 33, 3) := by decide +kernel
theorem dX10_open_49 : decode cX10_open 49 = .ok (.aload_n 0, 1) := by decide +kernel
theorem dX10_open_50 : decode cX10_open 50 = .ok (.getfield 19, 3) := by decide +kernel
theorem dX10_open_53 : decode cX10_open 53 = .ok (.getfield 89, 3) := by decide +kernel
theorem dX10_open_56 : decode cX10_open 56 = .ok (.iload_n 1, 1) := by decide +kernel
theorem dX10_open_57 : decode cX10_open 57 = .ok (.bipush 12, 2) := by decide +kernel
theorem dX10_open_59 : decode cX10_open 59 = .ok (.imul, 1) := by decide +kernel
theorem dX10_open_60 : decode cX10_open 60 = .ok (.iload 5, 2) := by decide +kernel
theorem dX10_open_62 : decode cX10_open 62 = .ok (.iadd, 1) := by decide +kernel
theorem dX10_open_63 : decode cX10_open 63 = .ok (.invokevirtual 99, 3) := by decide +kernel
theorem dX10_open_66 : decode cX10_open 66 = .ok (.iload_n 3, 1) := by decide +kernel
theorem dX10_open_67 : decode cX10_open 67 = .ok (.if_icmp .gt 6, 3) := by decide +kernel
theorem dX10_open_70 : decode cX10_open 70 = .ok (.iinc 4 1, 3) := by decide +kernel
theorem dX10_open_73 : decode cX10_open 73 = .ok (.iinc 5 1, 3) := by decide +kernel
theorem dX10_open_76 : decode cX10_open 76 = .ok (.goto (-34), 3) := by decide +kernel
theorem dX10_open_79 : decode cX10_open 79 = .ok (.iload 4, 2) := by decide +kernel
theorem dX10_open_81 : decode cX10_open 81 = .ok (.ireturn, 1) := by decide +kernel
theorem dX10_seed_0 : decode cX10_seed 0 = .ok (.aload_n 0, 1) := by decide +kernel
theorem dX10_seed_1 : decode cX10_seed 1 = .ok (.getfield 19, 3) := by decide +kernel
theorem dX10_seed_4 : decode cX10_seed 4 = .ok (.getfield 273, 3) := by decide +kernel
theorem dX10_seed_7 : decode cX10_seed 7 = .ok (.istore_n 2, 1) := by decide +kernel
theorem dX10_seed_8 : decode cX10_seed 8 = .ok (.aload_n 0, 1) := by decide +kernel
theorem dX10_seed_9 : decode cX10_seed 9 = .ok (.getfield 19, 3) := by decide +kernel
theorem dX10_seed_12 : decode cX10_seed 12 = .ok (.iload_n 1, 1) := by decide +kernel
theorem dX10_seed_13 : decode cX10_seed 13 = .ok (.putfield 273, 3) := by decide +kernel
theorem dX10_seed_16 : decode cX10_seed 16 = .ok (.iload_n 2, 1) := by decide +kernel
theorem dX10_seed_17 : decode cX10_seed 17 = .ok (.ireturn, 1) := by decide +kernel
theorem dX10_hold_0 : decode cX10_hold 0 = .ok (.iload_n 1, 1) := by decide +kernel
theorem dX10_hold_1 : decode cX10_hold 1 = .ok (.invokestatic 276, 3) := by decide +kernel
theorem dX10_hold_4 : decode cX10_hold 4 = .ok (.ifCond .eq 13, 3) := by decide +kernel
theorem dX10_hold_7 : decode cX10_hold 7 = .ok (.iload_n 2, 1) := by decide +kernel
theorem dX10_hold_8 : decode cX10_hold 8 = .ok (.iconst (-1), 1) := by decide +kernel
theorem dX10_hold_9 : decode cX10_hold 9 = .ok (.bipush 7, 2) := by decide +kernel
theorem dX10_hold_11 : decode cX10_hold 11 = .ok (.invokestatic 81, 3) := by decide +kernel
theorem dX10_hold_14 : decode cX10_hold 14 = .ok (.ifCond .ne 12, 3) := by decide +kernel
theorem dX10_hold_17 : decode cX10_hold 17 = .ok (.aload_n 0, 1) := by decide +kernel
theorem dX10_hold_18 : decode cX10_hold 18 = .ok (.getfield 12, 3) := by decide +kernel
theorem dX10_hold_21 : decode cX10_hold 21 = .ok (.iconst 0, 1) := by decide +kernel
theorem dX10_hold_22 : decode cX10_hold 22 = .ok (.invokevirtual 85, 3) := by decide +kernel
theorem dX10_hold_25 : decode cX10_hold 25 = .ok (.ireturn, 1) := by decide +kernel
theorem dX10_hold_26 : decode cX10_hold 26 = .ok (.iload_n 2, 1) := by decide +kernel
theorem dX10_hold_27 : decode cX10_hold 27 = .ok (.iconst (-1), 1) := by decide +kernel
theorem dX10_hold_28 : decode cX10_hold 28 = .ok (.if_icmp .eq 26, 3) := by decide +kernel
theorem dX10_hold_31 : decode cX10_hold 31 = .ok (.aload_n 0, 1) := by decide +kernel
theorem dX10_hold_32 : decode cX10_hold 32 = .ok (.getfield 19, 3) := by decide +kernel
theorem dX10_hold_35 : decode cX10_hold 35 = .ok (.getfield 102, 3) := by decide +kernel
theorem dX10_hold_38 : decode cX10_hold 38 = .ok (.iload_n 2, 1) := by decide +kernel
theorem dX10_hold_39 : decode cX10_hold 39 = .ok (.invokevirtual 155, 3) := by decide +kernel
theorem dX10_hold_42 : decode cX10_hold 42 = .ok (.ifCond .ne 12, 3) := by decide +kernel
theorem dX10_hold_45 : decode cX10_hold 45 = .ok (.aload_n 0, 1) := by decide +kernel
theorem dX10_hold_46 : decode cX10_hold 46 = .ok (.getfield 12, 3) := by decide +kernel
theorem dX10_hold_49 : decode cX10_hold 49 = .ok (.iconst 3, 1) := by decide +kernel
theorem dX10_hold_50 : decode cX10_hold 50 = .ok (.invokevirtual 85, 3) := by decide +kernel
theorem dX10_hold_53 : decode cX10_hold 53 = .ok (.ireturn, 1) := by decide +kernel
theorem dX10_hold_54 : decode cX10_hold 54 = .ok (.aload_n 0, 1) := by decide +kernel
theorem dX10_hold_55 : decode cX10_hold 55 = .ok (.getfield 19, 3) := by decide +kernel
theorem dX10_hold_58 : decode cX10_hold 58 = .ok (.getfield 279, 3) := by decide +kernel
theorem dX10_hold_61 : decode cX10_hold 61 = .ok (.iload_n 1, 1) := by decide +kernel
theorem dX10_hold_62 : decode cX10_hold 62 = .ok (.iload_n 2, 1) := by decide +kernel
theorem dX10_hold_63 : decode cX10_hold 63 = .ok (.iastore, 1) := by decide +kernel
theorem dX10_hold_64 : decode cX10_hold 64 = .ok (.iconst 1, 1) := by decide +kernel
theorem dX10_hold_65 : decode cX10_hold 65 = .ok (.ireturn, 1) := by decide +kernel
theorem dX10_as_0 : decode cX10_as 0 = .ok (.iload_n 1, 1) := by decide +kernel
theorem dX10_as_1 : decode cX10_as 1 = .ok (.invokestatic 276, 3) := by decide +kernel
theorem dX10_as_4 : decode cX10_as 4 = .ok (.ifCond .eq 10, 3) := by decide +kernel
theorem dX10_as_7 : decode cX10_as 7 = .ok (.iload_n 2, 1) := by decide +kernel
theorem dX10_as_8 : decode cX10_as 8 = .ok (.invokestatic 242, 3) := by decide +kernel
theorem dX10_as_11 : decode cX10_as 11 = .ok (.ifCond .ne 12, 3) := by decide +kernel
theorem dX10_as_14 : decode cX10_as 14 = .ok (.aload_n 0, 1) := by decide +kernel
theorem dX10_as_15 : decode cX10_as 15 = .ok (.getfield 12, 3) := by decide +kernel
theorem dX10_as_18 : decode cX10_as 18 = .ok (.iconst 0, 1) := by decide +kernel
theorem dX10_as_19 : decode cX10_as 19 = .ok (.invokevirtual 85, 3) := by decide +kernel
theorem dX10_as_22 : decode cX10_as 22 = .ok (.ireturn, 1) := by decide +kernel
theorem dX10_as_23 : decode cX10_as 23 = .ok (.aload_n 0, 1) := by decide +kernel
theorem dX10_as_24 : decode cX10_as 24 = .ok (.getfield 19, 3) := by decide +kernel
theorem dX10_as_27 : decode cX10_as 27 = .ok (.getfield 279, 3) := by decide +kernel
theorem dX10_as_30 : decode cX10_as 30 = .ok (.iload_n 1, 1) := by decide +kernel
theorem dX10_as_31 : decode cX10_as 31 = .ok (.iaload, 1) := by decide +kernel
theorem dX10_as_32 : decode cX10_as 32 = .ok (.istore_n 3, 1) := by decide +kernel
theorem dX10_as_33 : decode cX10_as 33 = .ok (.iload_n 3, 1) := by decide +kernel
theorem dX10_as_34 : decode cX10_as 34 = .ok (.invokestatic 152, 3) := by decide +kernel
theorem dX10_as_37 : decode cX10_as 37 = .ok (.ifCond .eq 17, 3) := by decide +kernel
theorem dX10_as_40 : decode cX10_as 40 = .ok (.aload_n 0, 1) := by decide +kernel
theorem dX10_as_41 : decode cX10_as 41 = .ok (.getfield 19, 3) := by decide +kernel
theorem dX10_as_44 : decode cX10_as 44 = .ok (.getfield 102, 3) := by decide +kernel
theorem dX10_as_47 : decode cX10_as 47 = .ok (.iload_n 3, 1) := by decide +kernel
theorem dX10_as_48 : decode cX10_as 48 = .ok (.invokevirtual 155, 3) := by decide +kernel
theorem dX10_as_51 : decode cX10_as 51 = .ok (.ifCond .ne 12, 3) := by decide +kernel
theorem dX10_as_54 : decode cX10_as 54 = .ok (.aload_n 0, 1) := by decide +kernel
theorem dX10_as_55 : decode cX10_as 55 = .ok (.getfield 12, 3) := by decide +kernel
theorem dX10_as_58 : decode cX10_as 58 = .ok (.iconst 5, 1) := by decide +kernel
theorem dX10_as_59 : decode cX10_as 59 = .ok (.invokevirtual 85, 3) := by decide +kernel
theorem dX10_as_62 : decode cX10_as 62 = .ok (.ireturn, 1) := by decide +kernel
theorem dX10_as_63 : decode cX10_as 63 = .ok (.aload_n 0, 1) := by decide +kernel
theorem dX10_as_64 : decode cX10_as 64 = .ok (.getfield 19, 3) := by decide +kernel
theorem dX10_as_67 : decode cX10_as 67 = .ok (.getfield 102, 3) := by decide +kernel
theorem dX10_as_70 : decode cX10_as 70 = .ok (.getfield 158, 3) := by decide +kernel
theorem dX10_as_73 : decode cX10_as 73 = .ok (.iload_n 3, 1) := by decide +kernel
theorem dX10_as_74 : decode cX10_as 74 = .ok (.iaload, 1) := by decide +kernel
theorem dX10_as_75 : decode cX10_as 75 = .ok (.iload_n 2, 1) := by decide +kernel
theorem dX10_as_76 : decode cX10_as 76 = .ok (.invokestatic 282, 3) := by decide +kernel
theorem dX10_as_79 : decode cX10_as 79 = .ok (.ifCond .eq 7, 3) := by decide +kernel
theorem dX10_as_82 : decode cX10_as 82 = .ok (.iload_n 3, 1) := by decide +kernel
theorem dX10_as_83 : decode cX10_as 83 = .ok (.goto 11, 3) := by decide +kernel
theorem dX10_as_86 : decode cX10_as 86 = .ok (.aload_n 0, 1) := by decide +kernel
theorem dX10_as_87 : decode cX10_as 87 = .ok (.getfield 12, 3) := by decide +kernel
theorem dX10_as_90 : decode cX10_as 90 = .ok (.iconst 2, 1) := by decide +kernel
theorem dX10_as_91 : decode cX10_as 91 = .ok (.invokevirtual 85, 3) := by decide +kernel
theorem dX10_as_94 : decode cX10_as 94 = .ok (.ireturn, 1) := by decide +kernel
theorem dX10_sheet_0 : decode cX10_sheet 0 = .ok (.iload_n 1, 1) := by decide +kernel
theorem dX10_sheet_1 : decode cX10_sheet 1 = .ok (.invokestatic 285, 3) := by decide +kernel
theorem dX10_sheet_4 : decode cX10_sheet 4 = .ok (.ifCond .eq 10, 3) := by decide +kernel
theorem dX10_sheet_7 : decode cX10_sheet 7 = .ok (.iload_n 2, 1) := by decide +kernel
theorem dX10_sheet_8 : decode cX10_sheet 8 = .ok (.invokestatic 288, 3) := by decide +kernel
theorem dX10_sheet_11 : decode cX10_sheet 11 = .ok (.ifCond .ne 12, 3) := by decide +kernel
theorem dX10_sheet_14 : decode cX10_sheet 14 = .ok (.aload_n 0, 1) := by decide +kernel
theorem dX10_sheet_15 : decode cX10_sheet 15 = .ok (.getfield 12, 3) := by decide +kernel
theorem dX10_sheet_18 : decode cX10_sheet 18 = .ok (.iconst 0, 1) := by decide +kernel
theorem dX10_sheet_19 : decode cX10_sheet 19 = .ok (.invokevirtual 85, 3) := by decide +kernel
theorem dX10_sheet_22 : decode cX10_sheet 22 = .ok (.ireturn, 1) := by decide +kernel
theorem dX10_sheet_23 : decode cX10_sheet 23 = .ok (.iload_n 3, 1) := by decide +kernel
theorem dX10_sheet_24 : decode cX10_sheet 24 = .ok (.ifCond .ge 13, 3) := by decide +kernel
theorem dX10_sheet_27 : decode cX10_sheet 27 = .ok (.aload_n 0, 1) := by decide +kernel
theorem dX10_sheet_28 : decode cX10_sheet 28 = .ok (.getfield 12, 3) := by decide +kernel
theorem dX10_sheet_31 : decode cX10_sheet 31 = .ok (.bipush 6, 2) := by decide +kernel
theorem dX10_sheet_33 : decode cX10_sheet 33 = .ok (.invokevirtual 85, 3) := by decide +kernel
theorem dX10_sheet_36 : decode cX10_sheet 36 = .ok (.ireturn, 1) := by decide +kernel
theorem dX10_sheet_37 : decode cX10_sheet 37 = .ok (.iload_n 3, 1) := by decide +kernel
theorem dX10_sheet_38 : decode cX10_sheet 38 = .ok (.bipush 40, 2) := by decide +kernel
theorem dX10_sheet_40 : decode cX10_sheet 40 = .ok (.if_icmp .le 12, 3) := by decide +kernel
theorem dX10_sheet_43 : decode cX10_sheet 43 = .ok (.aload_n 0, 1) := by decide +kernel
theorem dX10_sheet_44 : decode cX10_sheet 44 = .ok (.getfield 12, 3) := by decide +kernel
theorem dX10_sheet_47 : decode cX10_sheet 47 = .ok (.iconst 0, 1) := by decide +kernel
theorem dX10_sheet_48 : decode cX10_sheet 48 = .ok (.invokevirtual 85, 3) := by decide +kernel
theorem dX10_sheet_51 : decode cX10_sheet 51 = .ok (.ireturn, 1) := by decide +kernel
theorem dX10_sheet_52 : decode cX10_sheet 52 = .ok (.iload_n 2, 1) := by decide +kernel
theorem dX10_sheet_53 : decode cX10_sheet 53 = .ok (.ifCond .ne 7, 3) := by decide +kernel
theorem dX10_sheet_56 : decode cX10_sheet 56 = .ok (.iconst 0, 1) := by decide +kernel
theorem dX10_sheet_57 : decode cX10_sheet 57 = .ok (.goto 4, 3) := by decide +kernel
theorem dX10_sheet_60 : decode cX10_sheet 60 = .ok (.iload_n 3, 1) := by decide +kernel
theorem dX10_sheet_61 : decode cX10_sheet 61 = .ok (.istore 4, 2) := by decide +kernel
theorem dX10_sheet_63 : decode cX10_sheet 63 = .ok (.aload_n 0, 1) := by decide +kernel
theorem dX10_sheet_64 : decode cX10_sheet 64 = .ok (.getfield 48, 3) := by decide +kernel
theorem dX10_sheet_67 : decode cX10_sheet 67 = .ok (.iload_n 1, 1) := by decide +kernel
theorem dX10_sheet_68 : decode cX10_sheet 68 = .ok (.aaload, 1) := by decide +kernel
theorem dX10_sheet_69 : decode cX10_sheet 69 = .ok (.iload_n 2, 1) := by decide +kernel
theorem dX10_sheet_70 : decode cX10_sheet 70 = .ok (.iload 4, 2) := by decide +kernel
theorem dX10_sheet_72 : decode cX10_sheet 72 = .ok (.invokevirtual 291, 3) := by decide +kernel
theorem dX10_sheet_75 : decode cX10_sheet 75 = .ok (.iload 4, 2) := by decide +kernel
theorem dX10_sheet_77 : decode cX10_sheet 77 = .ok (.ireturn, 1) := by decide +kernel
theorem dX10_write_0 : decode cX10_write 0 = .ok (.iload_n 1, 1) := by decide +kernel
theorem dX10_write_1 : decode cX10_write 1 = .ok (.invokestatic 285, 3) := by decide +kernel
theorem dX10_write_4 : decode cX10_write 4 = .ok (.ifCond .ne 12, 3) := by decide +kernel
theorem dX10_write_7 : decode cX10_write 7 = .ok (.aload_n 0, 1) := by decide +kernel
theorem dX10_write_8 : decode cX10_write 8 = .ok (.getfield 12, 3) := by decide +kernel
theorem dX10_write_11 : decode cX10_write 11 = .ok (.iconst 0, 1) := by decide +kernel
theorem dX10_write_12 : decode cX10_write 12 = .ok (.invokevirtual 85, 3) := by decide +kernel
theorem dX10_write_15 : decode cX10_write 15 = .ok (.ireturn, 1) := by decide +kernel
theorem dX10_write_16 : decode cX10_write 16 = .ok (.aload_n 0, 1) := by decide +kernel
theorem dX10_write_17 : decode cX10_write 17 = .ok (.getfield 48, 3) := by decide +kernel
theorem dX10_write_20 : decode cX10_write 20 = .ok (.iload_n 1, 1) := by decide +kernel
theorem dX10_write_21 : decode cX10_write 21 = .ok (.aaload, 1) := by decide +kernel
theorem dX10_write_22 : decode cX10_write 22 = .ok (.astore 4, 2) := by decide +kernel
theorem dX10_write_24 : decode cX10_write 24 = .ok (.aload 4, 2) := by decide +kernel
theorem dX10_write_26 : decode cX10_write 26 = .ok (.invokevirtual 294, 3) := by decide +kernel
theorem dX10_write_29 : decode cX10_write 29 = .ok (.ifCond .eq 12, 3) := by decide +kernel
theorem dX10_write_32 : decode cX10_write 32 = .ok (.aload_n 0, 1) := by decide +kernel
theorem dX10_write_33 : decode cX10_write 33 = .ok (.getfield 12, 3) := by decide +kernel
theorem dX10_write_36 : decode cX10_write 36 = .ok (.iconst 5, 1) := by decide +kernel
theorem dX10_write_37 : decode cX10_write 37 = .ok (.invokevirtual 85, 3) := by decide +kernel
theorem dX10_write_40 : decode cX10_write 40 = .ok (.ireturn, 1) := by decide +kernel
theorem dX10_write_41 : decode cX10_write 41 = .ok (.iload_n 2, 1) := by decide +kernel
theorem dX10_write_42 : decode cX10_write 42 = .ok (.iconst 0, 1) := by decide +kernel
theorem dX10_write_43 : decode cX10_write 43 = .ok (.aload 4, 2) := by decide +kernel
theorem dX10_write_45 : decode cX10_write 45 = .ok (.getfield 297, 3) := by decide +kernel
theorem dX10_write_48 : decode cX10_write 48 = .ok (.iconst 1, 1) := by decide +kernel
theorem dX10_write_49 : decode cX10_write 49 = .ok (.isub, 1) := by decide +kernel
theorem dX10_write_50 : decode cX10_write 50 = .ok (.invokestatic 81, 3) := by decide +kernel
theorem dX10_write_53 : decode cX10_write 53 = .ok (.ifCond .ne 12, 3) := by decide +kernel
theorem dX10_write_56 : decode cX10_write 56 = .ok (.aload_n 0, 1) := by decide +kernel
theorem dX10_write_57 : decode cX10_write 57 = .ok (.getfield 12, 3) := by decide +kernel
theorem dX10_write_60 : decode cX10_write 60 = .ok (.iconst 0, 1) := by decide +kernel
theorem dX10_write_61 : decode cX10_write 61 = .ok (.invokevirtual 85, 3) := by decide +kernel
theorem dX10_write_64 : decode cX10_write 64 = .ok (.ireturn, 1) := by decide +kernel
theorem dX10_write_65 : decode cX10_write 65 = .ok (.aload 4, 2) := by decide +kernel
theorem dX10_write_67 : decode cX10_write 67 = .ok (.iload_n 2, 1) := by decide +kernel
theorem dX10_write_68 : decode cX10_write 68 = .ok (.iload_n 3, 1) := by decide +kernel
theorem dX10_write_69 : decode cX10_write 69 = .ok (.invokevirtual 300, 3) := by decide +kernel
theorem dX10_write_72 : decode cX10_write 72 = .ok (.iconst 1, 1) := by decide +kernel
theorem dX10_write_73 : decode cX10_write 73 = .ok (.ireturn, 1) := by decide +kernel
theorem dX10_copy_0 : decode cX10_copy 0 = .ok (.iload_n 1, 1) := by decide +kernel
theorem dX10_copy_1 : decode cX10_copy 1 = .ok (.invokestatic 285, 3) := by decide +kernel
theorem dX10_copy_4 : decode cX10_copy 4 = .ok (.ifCond .eq 10, 3) := by decide +kernel
theorem dX10_copy_7 : decode cX10_copy 7 = .ok (.iload_n 3, 1) := by decide +kernel
theorem dX10_copy_8 : decode cX10_copy 8 = .ok (.invokestatic 285, 3) := by decide +kernel
theorem dX10_copy_11 : decode cX10_copy 11 = .ok (.ifCond .ne 12, 3) := by decide +kernel
theorem dX10_copy_14 : decode cX10_copy 14 = .ok (.aload_n 0, 1) := by decide +kernel
theorem dX10_copy_15 : decode cX10_copy 15 = .ok (.getfield 12, 3) := by decide +kernel
theorem dX10_copy_18 : decode cX10_copy 18 = .ok (.iconst 0, 1) := by decide +kernel
theorem dX10_copy_19 : decode cX10_copy 19 = .ok (.invokevirtual 85, 3) := by decide +kernel
theorem dX10_copy_22 : decode cX10_copy 22 = .ok (.ireturn, 1) := by decide +kernel
theorem dX10_copy_23 : decode cX10_copy 23 = .ok (.aload_n 0, 1) := by decide +kernel
theorem dX10_copy_24 : decode cX10_copy 24 = .ok (.getfield 48, 3) := by decide +kernel
theorem dX10_copy_27 : decode cX10_copy 27 = .ok (.iload_n 1, 1) := by decide +kernel
theorem dX10_copy_28 : decode cX10_copy 28 = .ok (.aaload, 1) := by decide +kernel
theorem dX10_copy_29 : decode cX10_copy 29 = .ok (.astore 6, 2) := by decide +kernel
theorem dX10_copy_31 : decode cX10_copy 31 = .ok (.aload_n 0, 1) := by decide +kernel
theorem dX10_copy_32 : decode cX10_copy 32 = .ok (.getfield 48, 3) := by decide +kernel
theorem dX10_copy_35 : decode cX10_copy 35 = .ok (.iload_n 3, 1) := by decide +kernel
theorem dX10_copy_36 : decode cX10_copy 36 = .ok (.aaload, 1) := by decide +kernel
theorem dX10_copy_37 : decode cX10_copy 37 = .ok (.astore 7, 2) := by decide +kernel
theorem dX10_copy_39 : decode cX10_copy 39 = .ok (.aload 6, 2) := by decide +kernel
theorem dX10_copy_41 : decode cX10_copy 41 = .ok (.invokevirtual 294, 3) := by decide +kernel
theorem dX10_copy_44 : decode cX10_copy 44 = .ok (.ifCond .ne 11, 3) := by decide +kernel
theorem dX10_copy_47 : decode cX10_copy 47 = .ok (.aload 7, 2) := by decide +kernel
theorem dX10_copy_49 : decode cX10_copy 49 = .ok (.invokevirtual 294, 3) := by decide +kernel
theorem dX10_copy_52 : decode cX10_copy 52 = .ok (.ifCond .eq 12, 3) := by decide +kernel
theorem dX10_copy_55 : decode cX10_copy 55 = .ok (.aload_n 0, 1) := by decide +kernel
theorem dX10_copy_56 : decode cX10_copy 56 = .ok (.getfield 12, 3) := by decide +kernel
theorem dX10_copy_59 : decode cX10_copy 59 = .ok (.iconst 5, 1) := by decide +kernel
theorem dX10_copy_60 : decode cX10_copy 60 = .ok (.invokevirtual 85, 3) := by decide +kernel
theorem dX10_copy_63 : decode cX10_copy 63 = .ok (.ireturn, 1) := by decide +kernel
theorem dX10_copy_64 : decode cX10_copy 64 = .ok (.aload 6, 2) := by decide +kernel
theorem dX10_copy_66 : decode cX10_copy 66 = .ok (.getfield 303, 3) := by decide +kernel
theorem dX10_copy_69 : decode cX10_copy 69 = .ok (.aload 7, 2) := by decide +kernel
theorem dX10_copy_71 : decode cX10_copy 71 = .ok (.getfield 303, 3) := by decide +kernel
theorem dX10_copy_74 : decode cX10_copy 74 = .ok (.if_icmp .eq 12, 3) := by decide +kernel
theorem dX10_copy_77 : decode cX10_copy 77 = .ok (.aload_n 0, 1) := by decide +kernel
theorem dX10_copy_78 : decode cX10_copy 78 = .ok (.getfield 12, 3) := by decide +kernel
theorem dX10_copy_81 : decode cX10_copy 81 = .ok (.iconst 2, 1) := by decide +kernel
theorem dX10_copy_82 : decode cX10_copy 82 = .ok (.invokevirtual 85, 3) := by decide +kernel
theorem dX10_copy_85 : decode cX10_copy 85 = .ok (.ireturn, 1) := by decide +kernel
theorem dX10_copy_86 : decode cX10_copy 86 = .ok (.aload 6, 2) := by decide +kernel
theorem dX10_copy_88 : decode cX10_copy 88 = .ok (.iload_n 2, 1) := by decide +kernel
theorem dX10_copy_89 : decode cX10_copy 89 = .ok (.iload 5, 2) := by decide +kernel
theorem dX10_copy_91 : decode cX10_copy 91 = .ok (.invokevirtual 306, 3) := by decide +kernel
theorem dX10_copy_94 : decode cX10_copy 94 = .ok (.ifCond .eq 15, 3) := by decide +kernel
theorem dX10_copy_97 : decode cX10_copy 97 = .ok (.aload 7, 2) := by decide +kernel
theorem dX10_copy_99 : decode cX10_copy 99 = .ok (.iload 4, 2) := by decide +kernel
theorem dX10_copy_101 : decode cX10_copy 101 = .ok (.iload 5, 2) := by decide +kernel
theorem dX10_copy_103 : decode cX10_copy 103 = .ok (.invokevirtual 306, 3) := by decide +kernel
theorem dX10_copy_106 : decode cX10_copy 106 = .ok (.ifCond .ne 12, 3) := by decide +kernel
theorem dX10_copy_109 : decode cX10_copy 109 = .ok (.aload_n 0, 1) := by decide +kernel
theorem dX10_copy_110 : decode cX10_copy 110 = .ok (.getfield 12, 3) := by decide +kernel
theorem dX10_copy_113 : decode cX10_copy 113 = .ok (.iconst 0, 1) := by decide +kernel
theorem dX10_copy_114 : decode cX10_copy 114 = .ok (.invokevirtual 85, 3) := by decide +kernel
theorem dX10_copy_117 : decode cX10_copy 117 = .ok (.ireturn, 1) := by decide +kernel
theorem dX10_copy_118 : decode cX10_copy 118 = .ok (.aload 6, 2) := by decide +kernel
theorem dX10_copy_120 : decode cX10_copy 120 = .ok (.getfield 309, 3) := by decide +kernel
theorem dX10_copy_123 : decode cX10_copy 123 = .ok (.iload_n 2, 1) := by decide +kernel
theorem dX10_copy_124 : decode cX10_copy 124 = .ok (.aload 7, 2) := by decide +kernel
theorem dX10_copy_126 : decode cX10_copy 126 = .ok (.getfield 309, 3) := by decide +kernel
theorem dX10_copy_129 : decode cX10_copy 129 = .ok (.iload 4, 2) := by decide +kernel
theorem dX10_copy_131 : decode cX10_copy 131 = .ok (.iload 5, 2) := by decide +kernel
theorem dX10_copy_133 : decode cX10_copy 133 = .ok (.invokestatic 312, 3) := by decide +kernel
theorem dX10_copy_136 : decode cX10_copy 136 = .ok (.iload 5, 2) := by decide +kernel
theorem dX10_copy_138 : decode cX10_copy 138 = .ok (.ireturn, 1) := by decide +kernel
theorem dX10_load_0 : decode cX10_load 0 = .ok (.iload_n 1, 1) := by decide +kernel
theorem dX10_load_1 : decode cX10_load 1 = .ok (.invokestatic 285, 3) := by decide +kernel
theorem dX10_load_4 : decode cX10_load 4 = .ok (.ifCond .ne 12, 3) := by decide +kernel
theorem dX10_load_7 : decode cX10_load 7 = .ok (.aload_n 0, 1) := by decide +kernel
theorem dX10_load_8 : decode cX10_load 8 = .ok (.getfield 12, 3) := by decide +kernel
theorem dX10_load_11 : decode cX10_load 11 = .ok (.iconst 0, 1) := by decide +kernel
theorem dX10_load_12 : decode cX10_load 12 = .ok (.invokevirtual 85, 3) := by decide +kernel
theorem dX10_load_15 : decode cX10_load 15 = .ok (.ireturn, 1) := by decide +kernel
theorem dX10_load_16 : decode cX10_load 16 = .ok (.aload_n 0, 1) := by decide +kernel
theorem dX10_load_17 : decode cX10_load 17 = .ok (.getfield 48, 3) := by decide +kernel
theorem dX10_load_20 : decode cX10_load 20 = .ok (.iload_n 1, 1) := by decide +kernel
theorem dX10_load_21 : decode cX10_load 21 = .ok (.aaload, 1) := by decide +kernel
theorem dX10_load_22 : decode cX10_load 22 = .ok (.astore_n 3, 1) := by decide +kernel
theorem dX10_load_23 : decode cX10_load 23 = .ok (.aload_n 3, 1) := by decide +kernel
theorem dX10_load_24 : decode cX10_load 24 = .ok (.invokevirtual 294, 3) := by decide +kernel
theorem dX10_load_27 : decode cX10_load 27 = .ok (.ifCond .eq 12, 3) := by decide +kernel
theorem dX10_load_30 : decode cX10_load 30 = .ok (.aload_n 0, 1) := by decide +kernel
theorem dX10_load_31 : decode cX10_load 31 = .ok (.getfield 12, 3) := by decide +kernel
theorem dX10_load_34 : decode cX10_load 34 = .ok (.iconst 5, 1) := by decide +kernel
theorem dX10_load_35 : decode cX10_load 35 = .ok (.invokevirtual 85, 3) := by decide +kernel
theorem dX10_load_38 : decode cX10_load 38 = .ok (.ireturn, 1) := by decide +kernel
theorem dX10_load_39 : decode cX10_load 39 = .ok (.iload_n 2, 1) := by decide +kernel
theorem dX10_load_40 : decode cX10_load 40 = .ok (.invokestatic 77, 3) := by decide +kernel
theorem dX10_load_43 : decode cX10_load 43 = .ok (.ifCond .ne 12, 3) := by decide +kernel
theorem dX10_load_46 : decode cX10_load 46 = .ok (.aload_n 0, 1) := by decide +kernel
theorem dX10_load_47 : decode cX10_load 47 = .ok (.getfield 12, 3) := by decide +kernel
theorem dX10_load_50 : decode cX10_load 50 = .ok (.iconst 0, 1) := by decide +kernel
theorem dX10_load_51 : decode cX10_load 51 = .ok (.invokevirtual 85, 3) := by decide +kernel
theorem dX10_load_54 : decode cX10_load 54 = .ok (.ireturn, 1) := by decide +kernel
theorem dX10_load_55 : decode cX10_load 55 = .ok (.iconst 0, 1) := by decide +kernel
theorem dX10_load_56 : decode cX10_load 56 = .ok (.istore 4, 2) := by decide +kernel
theorem dX10_load_58 : decode cX10_load 58 = .ok (.iload 4, 2) := by decide +kernel
theorem dX10_load_60 : decode cX10_load 60 = .ok (.aload_n 3, 1) := by decide +kernel
theorem dX10_load_61 : decode cX10_load 61 = .ok (.getfield 297, 3) := by decide +kernel
theorem dX10_load_64 : decode cX10_load 64 = .ok (.if_icmp .ge 57, 3) := by decide +kernel
theorem dX10_load_67 : decode cX10_load 67 = .ok (.iload_n 2, 1) := by decide +kernel
theorem dX10_load_68 : decode cX10_load 68 = .ok (.iload 4, 2) := by decide +kernel
theorem dX10_load_70 : decode cX10_load 70 = .ok (.iadd, 1) := by decide +kernel
theorem dX10_load_71 : decode cX10_load 71 = .ok (.sipush 192, 3) := by decide +kernel
theorem dX10_load_74 : decode cX10_load 74 = .ok (.if_icmp .ge 47, 3) := by decide +kernel
theorem dX10_load_77 : decode cX10_load 77 = .ok (.aload_n 3, 1) := by decide +kernel
theorem dX10_load_78 : decode cX10_load 78 = .ok (.getfield 309, 3) := by decide +kernel
theorem dX10_load_81 : decode cX10_load 81 = .ok (.iload 4, 2) := by decide +kernel
theorem dX10_load_83 : decode cX10_load 83 = .ok (.iaload, 1) := by decide +kernel
theorem dX10_load_84 : decode cX10_load 84 = .ok (.iconst 0, 1) := by decide +kernel
theorem dX10_load_85 : decode cX10_load 85 = .ok (.bipush 9, 2) := by decide +kernel
theorem dX10_load_87 : decode cX10_load 87 = .ok (.invokestatic 81, 3) := by decide +kernel
theorem dX10_load_90 : decode cX10_load 90 = .ok (.ifCond .eq 31, 3) := by decide +kernel
theorem dX10_load_93 : decode cX10_load 93 = .ok (.aload_n 0, 1) := by decide +kernel
theorem dX10_load_94 : decode cX10_load 94 = .ok (.getfield 19, 3) := by decide +kernel
theorem dX10_load_97 : decode cX10_load 97 = .ok (.getfield 89, 3) := by decide +kernel
theorem dX10_load_100 : decode cX10_load 100 = .ok (.getfield 92, 3) := by decide +kernel
theorem dX10_load_103 : decode cX10_load 103 = .ok (.iload_n 2, 1) := by decide +kernel
theorem dX10_load_104 : decode cX10_load 104 = .ok (.iload 4, 2) := by decide +kernel
theorem dX10_load_106 : decode cX10_load 106 = .ok (.iadd, 1) := by decide +kernel
theorem dX10_load_107 : decode cX10_load 107 = .ok (.aload_n 3, 1) := by decide +kernel
theorem dX10_load_108 : decode cX10_load 108 = .ok (.getfield 309, 3) := by decide +kernel
theorem dX10_load_111 : decode cX10_load 111 = .ok (.iload 4, 2) := by decide +kernel
theorem dX10_load_113 : decode cX10_load 113 = .ok (.iaload, 1) := by decide +kernel
theorem dX10_load_114 : decode cX10_load 114 = .ok (.iastore, 1) := by decide +kernel
theorem dX10_load_115 : decode cX10_load 115 = .ok (.iinc 4 1, 3) := by decide +kernel
theorem dX10_load_118 : decode cX10_load 118 = .ok (.goto (-60), 3) := by decide +kernel
theorem dX10_load_121 : decode cX10_load 121 = .ok (.iload 4, 2) := by decide +kernel
theorem dX10_load_123 : decode cX10_load 123 = .ok (.ireturn, 1) := by decide +kernel
theorem dX10_judge_0 : decode cX10_judge 0 = .ok (.iload_n 1, 1) := by decide +kernel
theorem dX10_judge_1 : decode cX10_judge 1 = .ok (.invokestatic 285, 3) := by decide +kernel
theorem dX10_judge_4 : decode cX10_judge 4 = .ok (.ifCond .ne 12, 3) := by decide +kernel
theorem dX10_judge_7 : decode cX10_judge 7 = .ok (.aload_n 0, 1) := by decide +kernel
theorem dX10_judge_8 : decode cX10_judge 8 = .ok (.getfield 12, 3) := by decide +kernel
theorem dX10_judge_11 : decode cX10_judge 11 = .ok (.iconst 0, 1) := by decide +kernel
theorem dX10_judge_12 : decode cX10_judge 12 = .ok (.invokevirtual 85, 3) := by decide +kernel
theorem dX10_judge_15 : decode cX10_judge 15 = .ok (.ireturn, 1) := by decide +kernel
theorem dX10_judge_16 : decode cX10_judge 16 = .ok (.aload_n 0, 1) := by decide +kernel
theorem dX10_judge_17 : decode cX10_judge 17 = .ok (.getfield 48, 3) := by decide +kernel
theorem dX10_judge_20 : decode cX10_judge 20 = .ok (.iload_n 1, 1) := by decide +kernel
theorem dX10_judge_21 : decode cX10_judge 21 = .ok (.aaload, 1) := by decide +kernel
theorem dX10_judge_22 : decode cX10_judge 22 = .ok (.astore_n 3, 1) := by decide +kernel
theorem dX10_judge_23 : decode cX10_judge 23 = .ok (.aload_n 3, 1) := by decide +kernel
theorem dX10_judge_24 : decode cX10_judge 24 = .ok (.invokevirtual 294, 3) := by decide +kernel
theorem dX10_judge_27 : decode cX10_judge 27 = .ok (.ifCond .eq 12, 3) := by decide +kernel
theorem dX10_judge_30 : decode cX10_judge 30 = .ok (.aload_n 0, 1) := by decide +kernel
theorem dX10_judge_31 : decode cX10_judge 31 = .ok (.getfield 12, 3) := by decide +kernel
theorem dX10_judge_34 : decode cX10_judge 34 = .ok (.iconst 5, 1) := by decide +kernel
theorem dX10_judge_35 : decode cX10_judge 35 = .ok (.invokevirtual 85, 3) := by decide +kernel
theorem dX10_judge_38 : decode cX10_judge 38 = .ok (.ireturn, 1) := by decide +kernel
theorem dX10_judge_39 : decode cX10_judge 39 = .ok (.iload_n 2, 1) := by decide +kernel
theorem dX10_judge_40 : decode cX10_judge 40 = .ok (.invokestatic 242, 3) := by decide +kernel
theorem dX10_judge_43 : decode cX10_judge 43 = .ok (.ifCond .eq 22, 3) := by decide +kernel
theorem dX10_judge_46 : decode cX10_judge 46 = .ok (.aload_n 3, 1) := by decide +kernel
theorem dX10_judge_47 : decode cX10_judge 47 = .ok (.getfield 297, 3) := by decide +kernel
theorem dX10_judge_50 : decode cX10_judge 50 = .ok (.ifCond .eq 15, 3) := by decide +kernel
theorem dX10_judge_53 : decode cX10_judge 53 = .ok (.aload_n 3, 1) := by decide +kernel
theorem dX10_judge_54 : decode cX10_judge 54 = .ok (.getfield 309, 3) := by decide +kernel
theorem dX10_judge_57 : decode cX10_judge 57 = .ok (.iconst 0, 1) := by decide +kernel
theorem dX10_judge_58 : decode cX10_judge 58 = .ok (.iaload, 1) := by decide +kernel
theorem dX10_judge_59 : decode cX10_judge 59 = .ok (.invokestatic 139, 3) := by decide +kernel
theorem dX10_judge_62 : decode cX10_judge 62 = .ok (.ifCond .ne 12, 3) := by decide +kernel
theorem dX10_judge_65 : decode cX10_judge 65 = .ok (.aload_n 0, 1) := by decide +kernel
theorem dX10_judge_66 : decode cX10_judge 66 = .ok (.getfield 12, 3) := by decide +kernel
theorem dX10_judge_69 : decode cX10_judge 69 = .ok (.iconst 0, 1) := by decide +kernel
theorem dX10_judge_70 : decode cX10_judge 70 = .ok (.invokevirtual 85, 3) := by decide +kernel
theorem dX10_judge_73 : decode cX10_judge 73 = .ok (.ireturn, 1) := by decide +kernel
theorem dX10_judge_74 : decode cX10_judge 74 = .ok (.aload_n 0, 1) := by decide +kernel
theorem dX10_judge_75 : decode cX10_judge 75 = .ok (.getfield 63, 3) := by decide +kernel
theorem dX10_judge_78 : decode cX10_judge 78 = .ok (.aload_n 0, 1) := by decide +kernel
theorem dX10_judge_79 : decode cX10_judge 79 = .ok (.getfield 19, 3) := by decide +kernel
theorem dX10_judge_82 : decode cX10_judge 82 = .ok (.getfield 89, 3) := by decide +kernel
theorem dX10_judge_85 : decode cX10_judge 85 = .ok (.iload_n 2, 1) := by decide +kernel
theorem dX10_judge_86 : decode cX10_judge 86 = .ok (.aload_n 3, 1) := by decide +kernel
theorem dX10_judge_87 : decode cX10_judge 87 = .ok (.getfield 309, 3) := by decide +kernel
theorem dX10_judge_90 : decode cX10_judge 90 = .ok (.iconst 0, 1) := by decide +kernel
theorem dX10_judge_91 : decode cX10_judge 91 = .ok (.iaload, 1) := by decide +kernel
theorem dX10_judge_92 : decode cX10_judge 92 = .ok (.bipush 20, 2) := by decide +kernel
theorem dX10_judge_94 : decode cX10_judge 94 = .ok (.invokevirtual 225, 3) := by decide +kernel
theorem dX10_judge_97 : decode cX10_judge 97 = .ok (.iconst 0, 1) := by decide +kernel
theorem dX10_judge_98 : decode cX10_judge 98 = .ok (.istore 4, 2) := by decide +kernel
theorem dX10_judge_100 : decode cX10_judge 100 = .ok (.iload 4, 2) := by decide +kernel
theorem dX10_judge_102 : decode cX10_judge 102 = .ok (.aload_n 3, 1) := by decide +kernel
theorem dX10_judge_103 : decode cX10_judge 103 = .ok (.getfield 297, 3) := by decide +kernel
theorem dX10_judge_106 : decode cX10_judge 106 = .ok (.if_icmp .ge 47, 3) := by decide +kernel
theorem dX10_judge_109 : decode cX10_judge 109 = .ok (.aload_n 0, 1) := by decide +kernel
theorem dX10_judge_110 : decode cX10_judge 110 = .ok (.getfield 63, 3) := by decide +kernel
theorem dX10_judge_113 : decode cX10_judge 113 = .ok (.iload 4, 2) := by decide +kernel
theorem dX10_judge_115 : decode cX10_judge 115 = .ok (.invokevirtual 239, 3) := by decide +kernel
theorem dX10_judge_118 : decode cX10_judge 118 = .ok (.istore 5, 2) := by decide +kernel
theorem dX10_judge_120 : decode cX10_judge 120 = .ok (.iload 5, 2) := by decide +kernel
theorem dX10_judge_122 : decode cX10_judge 122 = .ok (.bipush (-2), 2) := by decide +kernel
theorem dX10_judge_124 : decode cX10_judge 124 = .ok (.if_icmp .eq 18, 3) := by decide +kernel
theorem dX10_judge_127 : decode cX10_judge 127 = .ok (.iload 5, 2) := by decide +kernel
theorem dX10_judge_129 : decode cX10_judge 129 = .ok (.invokestatic 318, 3) := by decide +kernel
theorem dX10_judge_132 : decode cX10_judge 132 = .ok (.aload_n 3, 1) := by decide +kernel
theorem dX10_judge_133 : decode cX10_judge 133 = .ok (.getfield 309, 3) := by decide +kernel
theorem dX10_judge_136 : decode cX10_judge 136 = .ok (.iload 4, 2) := by decide +kernel
theorem dX10_judge_138 : decode cX10_judge 138 = .ok (.iaload, 1) := by decide +kernel
theorem dX10_judge_139 : decode cX10_judge 139 = .ok (.if_icmp .eq 8, 3) := by decide +kernel
theorem dX10_judge_142 : decode cX10_judge 142 = .ok (.iconst 1, 1) := by decide +kernel
theorem dX10_judge_143 : decode cX10_judge 143 = .ok (.iload 4, 2) := by decide +kernel
theorem dX10_judge_145 : decode cX10_judge 145 = .ok (.iadd, 1) := by decide +kernel
theorem dX10_judge_146 : decode cX10_judge 146 = .ok (.ireturn, 1) := by decide +kernel
theorem dX10_judge_147 : decode cX10_judge 147 = .ok (.iinc 4 1, 3) := by decide +kernel
theorem dX10_judge_150 : decode cX10_judge 150 = .ok (.goto (-50), 3) := by decide +kernel
theorem dX10_judge_153 : decode cX10_judge 153 = .ok (.iconst 0, 1) := by decide +kernel
theorem dX10_judge_154 : decode cX10_judge 154 = .ok (.ireturn, 1) := by decide +kernel
theorem dX10_image_0 : decode cX10_image 0 = .ok (.aload_n 0, 1) := by decide +kernel
theorem dX10_image_1 : decode cX10_image 1 = .ok (.getfield 23, 3) := by decide +kernel
theorem dX10_image_4 : decode cX10_image 4 = .ok (.aload_n 0, 1) := by decide +kernel
theorem dX10_image_5 : decode cX10_image 5 = .ok (.getfield 19, 3) := by decide +kernel
theorem dX10_image_8 : decode cX10_image 8 = .ok (.invokevirtual 321, 3) := by decide +kernel
theorem dX10_image_11 : decode cX10_image 11 = .ok (.aload_n 0, 1) := by decide +kernel
theorem dX10_image_12 : decode cX10_image 12 = .ok (.iconst 1, 1) := by decide +kernel
theorem dX10_image_13 : decode cX10_image 13 = .ok (.putfield 26, 3) := by decide +kernel
theorem dX10_image_16 : decode cX10_image 16 = .ok (.iconst 1, 1) := by decide +kernel
theorem dX10_image_17 : decode cX10_image 17 = .ok (.ireturn, 1) := by decide +kernel
theorem dX10_undo_0 : decode cX10_undo 0 = .ok (.aload_n 0, 1) := by decide +kernel
theorem dX10_undo_1 : decode cX10_undo 1 = .ok (.getfield 26, 3) := by decide +kernel
theorem dX10_undo_4 : decode cX10_undo 4 = .ok (.ifCond .ne 12, 3) := by decide +kernel
theorem dX10_undo_7 : decode cX10_undo 7 = .ok (.aload_n 0, 1) := by decide +kernel
theorem dX10_undo_8 : decode cX10_undo 8 = .ok (.getfield 12, 3) := by decide +kernel
theorem dX10_undo_11 : decode cX10_undo 11 = .ok (.iconst 3, 1) := by decide +kernel
theorem dX10_undo_12 : decode cX10_undo 12 = .ok (.invokevirtual 85, 3) := by decide +kernel
theorem dX10_undo_15 : decode cX10_undo 15 = .ok (.ireturn, 1) := by decide +kernel
theorem dX10_undo_16 : decode cX10_undo 16 = .ok (.aload_n 0, 1) := by decide +kernel
theorem dX10_undo_17 : decode cX10_undo 17 = .ok (.getfield 19, 3) := by decide +kernel
theorem dX10_undo_20 : decode cX10_undo 20 = .ok (.aload_n 0, 1) := by decide +kernel
theorem dX10_undo_21 : decode cX10_undo 21 = .ok (.getfield 23, 3) := by decide +kernel
theorem dX10_undo_24 : decode cX10_undo 24 = .ok (.invokevirtual 321, 3) := by decide +kernel
theorem dX10_undo_27 : decode cX10_undo 27 = .ok (.aload_n 0, 1) := by decide +kernel
theorem dX10_undo_28 : decode cX10_undo 28 = .ok (.getfield 19, 3) := by decide +kernel
theorem dX10_undo_31 : decode cX10_undo 31 = .ok (.getfield 102, 3) := by decide +kernel
theorem dX10_undo_34 : decode cX10_undo 34 = .ok (.invokevirtual 174, 3) := by decide +kernel
theorem dX10_undo_37 : decode cX10_undo 37 = .ok (.ireturn, 1) := by decide +kernel
theorem dX10_tear_0 : decode cX10_tear 0 = .ok (.aload_n 0, 1) := by decide +kernel
theorem dX10_tear_1 : decode cX10_tear 1 = .ok (.getfield 26, 3) := by decide +kernel
theorem dX10_tear_4 : decode cX10_tear 4 = .ok (.ifCond .eq 7, 3) := by decide +kernel
theorem dX10_tear_7 : decode cX10_tear 7 = .ok (.iconst 1, 1) := by decide +kernel
theorem dX10_tear_8 : decode cX10_tear 8 = .ok (.goto 4, 3) := by decide +kernel
theorem dX10_tear_11 : decode cX10_tear 11 = .ok (.iconst 0, 1) := by decide +kernel
theorem dX10_tear_12 : decode cX10_tear 12 = .ok (.istore_n 1, 1) := by decide +kernel
theorem dX10_tear_13 : decode cX10_tear 13 = .ok (.aload_n 0, 1) := by decide +kernel
theorem dX10_tear_14 : decode cX10_tear 14 = .ok (.iconst 0, 1) := by decide +kernel
theorem dX10_tear_15 : decode cX10_tear 15 = .ok (.putfield 26, 3) := by decide +kernel
theorem dX10_tear_18 : decode cX10_tear 18 = .ok (.iload_n 1, 1) := by decide +kernel
theorem dX10_tear_19 : decode cX10_tear 19 = .ok (.ireturn, 1) := by decide +kernel
theorem dX10_count_0 : decode cX10_count 0 = .ok (.iload_n 1, 1) := by decide +kernel
theorem dX10_count_1 : decode cX10_count 1 = .ok (.tableswitch 135 0 7 #[47, 58, 72, 86, 100, 111, 119, 127], 47) := by decide +kernel
theorem dX10_count_48 : decode cX10_count 48 = .ok (.aload_n 0, 1) := by decide +kernel
theorem dX10_count_49 : decode cX10_count 49 = .ok (.getfield 19, 3) := by decide +kernel
theorem dX10_count_52 : decode cX10_count 52 = .ok (.getfield 102, 3) := by decide +kernel
theorem dX10_count_55 : decode cX10_count 55 = .ok (.invokevirtual 174, 3) := by decide +kernel
theorem dX10_count_58 : decode cX10_count 58 = .ok (.ireturn, 1) := by decide +kernel
theorem dX10_count_59 : decode cX10_count 59 = .ok (.aload_n 0, 1) := by decide +kernel
theorem dX10_count_60 : decode cX10_count 60 = .ok (.getfield 19, 3) := by decide +kernel
theorem dX10_count_63 : decode cX10_count 63 = .ok (.getfield 102, 3) := by decide +kernel
theorem dX10_count_66 : decode cX10_count 66 = .ok (.getfield 164, 3) := by decide +kernel
theorem dX10_count_69 : decode cX10_count 69 = .ok (.invokestatic 191, 3) := by decide +kernel
theorem dX10_count_72 : decode cX10_count 72 = .ok (.ireturn, 1) := by decide +kernel
theorem dX10_count_73 : decode cX10_count 73 = .ok (.aload_n 0, 1) := by decide +kernel
theorem dX10_count_74 : decode cX10_count 74 = .ok (.getfield 19, 3) := by decide +kernel
theorem dX10_count_77 : decode cX10_count 77 = .ok (.getfield 89, 3) := by decide +kernel
theorem dX10_count_80 : decode cX10_count 80 = .ok (.getfield 96, 3) := by decide +kernel
theorem dX10_count_83 : decode cX10_count 83 = .ok (.invokestatic 129, 3) := by decide +kernel
theorem dX10_count_86 : decode cX10_count 86 = .ok (.ireturn, 1) := by decide +kernel
theorem dX10_count_87 : decode cX10_count 87 = .ok (.aload_n 0, 1) := by decide +kernel
theorem dX10_count_88 : decode cX10_count 88 = .ok (.getfield 19, 3) := by decide +kernel
theorem dX10_count_91 : decode cX10_count 91 = .ok (.getfield 89, 3) := by decide +kernel
theorem dX10_count_94 : decode cX10_count 94 = .ok (.getfield 92, 3) := by decide +kernel
theorem dX10_count_97 : decode cX10_count 97 = .ok (.invokestatic 129, 3) := by decide +kernel
theorem dX10_count_100 : decode cX10_count 100 = .ok (.ireturn, 1) := by decide +kernel
theorem dX10_count_101 : decode cX10_count 101 = .ok (.aload_n 0, 1) := by decide +kernel
theorem dX10_count_102 : decode cX10_count 102 = .ok (.getfield 19, 3) := by decide +kernel
theorem dX10_count_105 : decode cX10_count 105 = .ok (.getfield 200, 3) := by decide +kernel
theorem dX10_count_108 : decode cX10_count 108 = .ok (.getfield 204, 3) := by decide +kernel
theorem dX10_count_111 : decode cX10_count 111 = .ok (.ireturn, 1) := by decide +kernel
theorem dX10_count_112 : decode cX10_count 112 = .ok (.aload_n 0, 1) := by decide +kernel
theorem dX10_count_113 : decode cX10_count 113 = .ok (.getfield 33, 3) := by decide +kernel
theorem dX10_count_116 : decode cX10_count 116 = .ok (.getfield 194, 3) := by decide +kernel
theorem dX10_count_119 : decode cX10_count 119 = .ok (.ireturn, 1) := by decide +kernel
theorem dX10_count_120 : decode cX10_count 120 = .ok (.aload_n 0, 1) := by decide +kernel
theorem dX10_count_121 : decode cX10_count 121 = .ok (.getfield 19, 3) := by decide +kernel
theorem dX10_count_124 : decode cX10_count 124 = .ok (.getfield 273, 3) := by decide +kernel
theorem dX10_count_127 : decode cX10_count 127 = .ok (.ireturn, 1) := by decide +kernel
theorem dX10_count_128 : decode cX10_count 128 = .ok (.aload_n 0, 1) := by decide +kernel
theorem dX10_count_129 : decode cX10_count 129 = .ok (.getfield 19, 3) := by decide +kernel
theorem dX10_count_132 : decode cX10_count 132 = .ok (.getfield 324, 3) := by decide +kernel
theorem dX10_count_135 : decode cX10_count 135 = .ok (.ireturn, 1) := by decide +kernel
theorem dX10_count_136 : decode cX10_count 136 = .ok (.aload_n 0, 1) := by decide +kernel
theorem dX10_count_137 : decode cX10_count 137 = .ok (.getfield 12, 3) := by decide +kernel
theorem dX10_count_140 : decode cX10_count 140 = .ok (.iconst 0, 1) := by decide +kernel
theorem dX10_count_141 : decode cX10_count 141 = .ok (.invokevirtual 85, 3) := by decide +kernel
theorem dX10_count_144 : decode cX10_count 144 = .ok (.ireturn, 1) := by decide +kernel
theorem dX10_status_0 : decode cX10_status 0 = .ok (.iload_n 1, 1) := by decide +kernel
theorem dX10_status_1 : decode cX10_status 1 = .ok (.iconst (-1), 1) := by decide +kernel
theorem dX10_status_2 : decode cX10_status 2 = .ok (.if_icmp .ne 14, 3) := by decide +kernel
theorem dX10_status_5 : decode cX10_status 5 = .ok (.aload_n 0, 1) := by decide +kernel
theorem dX10_status_6 : decode cX10_status 6 = .ok (.getfield 12, 3) := by decide +kernel
theorem dX10_status_9 : decode cX10_status 9 = .ok (.getfield 327, 3) := by decide +kernel
theorem dX10_status_12 : decode cX10_status 12 = .ok (.invokestatic 191, 3) := by decide +kernel
theorem dX10_status_15 : decode cX10_status 15 = .ok (.ireturn, 1) := by decide +kernel
theorem dX10_status_16 : decode cX10_status 16 = .ok (.iload_n 1, 1) := by decide +kernel
theorem dX10_status_17 : decode cX10_status 17 = .ok (.iconst 0, 1) := by decide +kernel
theorem dX10_status_18 : decode cX10_status 18 = .ok (.bipush 6, 2) := by decide +kernel
theorem dX10_status_20 : decode cX10_status 20 = .ok (.invokestatic 81, 3) := by decide +kernel
theorem dX10_status_23 : decode cX10_status 23 = .ok (.ifCond .ne 12, 3) := by decide +kernel
theorem dX10_status_26 : decode cX10_status 26 = .ok (.aload_n 0, 1) := by decide +kernel
theorem dX10_status_27 : decode cX10_status 27 = .ok (.getfield 12, 3) := by decide +kernel
theorem dX10_status_30 : decode cX10_status 30 = .ok (.iconst 0, 1) := by decide +kernel
theorem dX10_status_31 : decode cX10_status 31 = .ok (.invokevirtual 85, 3) := by decide +kernel
theorem dX10_status_34 : decode cX10_status 34 = .ok (.ireturn, 1) := by decide +kernel
theorem dX10_status_35 : decode cX10_status 35 = .ok (.aload_n 0, 1) := by decide +kernel
theorem dX10_status_36 : decode cX10_status 36 = .ok (.getfield 12, 3) := by decide +kernel
theorem dX10_status_39 : decode cX10_status 39 = .ok (.getfield 327, 3) := by decide +kernel
theorem dX10_status_42 : decode cX10_status 42 = .ok (.iload_n 1, 1) := by decide +kernel
theorem dX10_status_43 : decode cX10_status 43 = .ok (.iaload, 1) := by decide +kernel
theorem dX10_status_44 : decode cX10_status 44 = .ok (.ireturn, 1) := by decide +kernel
theorem dX10_isWithin_0 : decode cX10_isWithin 0 = .ok (.iload_n 0, 1) := by decide +kernel
theorem dX10_isWithin_1 : decode cX10_isWithin 1 = .ok (.iload_n 1, 1) := by decide +kernel
theorem dX10_isWithin_2 : decode cX10_isWithin 2 = .ok (.if_icmp .lt 12, 3) := by decide +kernel
theorem dX10_isWithin_5 : decode cX10_isWithin 5 = .ok (.iload_n 0, 1) := by decide +kernel
theorem dX10_isWithin_6 : decode cX10_isWithin 6 = .ok (.iload_n 2, 1) := by decide +kernel
theorem dX10_isWithin_7 : decode cX10_isWithin 7 = .ok (.if_icmp .gt 7, 3) := by decide +kernel
theorem dX10_isWithin_10 : decode cX10_isWithin 10 = .ok (.iconst 1, 1) := by decide +kernel
theorem dX10_isWithin_11 : decode cX10_isWithin 11 = .ok (.goto 4, 3) := by decide +kernel
theorem dX10_isWithin_14 : decode cX10_isWithin 14 = .ok (.iconst 0, 1) := by decide +kernel
theorem dX10_isWithin_15 : decode cX10_isWithin 15 = .ok (.ireturn, 1) := by decide +kernel
theorem dX10_isCell_0 : decode cX10_isCell 0 = .ok (.iload_n 0, 1) := by decide +kernel
theorem dX10_isCell_1 : decode cX10_isCell 1 = .ok (.iconst 0, 1) := by decide +kernel
theorem dX10_isCell_2 : decode cX10_isCell 2 = .ok (.sipush 191, 3) := by decide +kernel
theorem dX10_isCell_5 : decode cX10_isCell 5 = .ok (.invokestatic 81, 3) := by decide +kernel
theorem dX10_isCell_8 : decode cX10_isCell 8 = .ok (.ireturn, 1) := by decide +kernel
theorem dX10_isRow_0 : decode cX10_isRow 0 = .ok (.iload_n 0, 1) := by decide +kernel
theorem dX10_isRow_1 : decode cX10_isRow 1 = .ok (.iconst 0, 1) := by decide +kernel
theorem dX10_isRow_2 : decode cX10_isRow 2 = .ok (.bipush 15, 2) := by decide +kernel
theorem dX10_isRow_4 : decode cX10_isRow 4 = .ok (.invokestatic 81, 3) := by decide +kernel
theorem dX10_isRow_7 : decode cX10_isRow 7 = .ok (.ireturn, 1) := by decide +kernel
theorem dX10_isColumn_0 : decode cX10_isColumn 0 = .ok (.iload_n 0, 1) := by decide +kernel
theorem dX10_isColumn_1 : decode cX10_isColumn 1 = .ok (.iconst 0, 1) := by decide +kernel
theorem dX10_isColumn_2 : decode cX10_isColumn 2 = .ok (.bipush 11, 2) := by decide +kernel
theorem dX10_isColumn_4 : decode cX10_isColumn 4 = .ok (.invokestatic 81, 3) := by decide +kernel
theorem dX10_isColumn_7 : decode cX10_isColumn 7 = .ok (.ireturn, 1) := by decide +kernel
theorem dX10_isKind_0 : decode cX10_isKind 0 = .ok (.iload_n 0, 1) := by decide +kernel
theorem dX10_isKind_1 : decode cX10_isKind 1 = .ok (.iconst 0, 1) := by decide +kernel
theorem dX10_isKind_2 : decode cX10_isKind 2 = .ok (.bipush 7, 2) := by decide +kernel
theorem dX10_isKind_4 : decode cX10_isKind 4 = .ok (.invokestatic 81, 3) := by decide +kernel
theorem dX10_isKind_7 : decode cX10_isKind 7 = .ok (.ireturn, 1) := by decide +kernel
theorem dX10_isWater_0 : decode cX10_isWater 0 = .ok (.iload_n 0, 1) := by decide +kernel
theorem dX10_isWater_1 : decode cX10_isWater 1 = .ok (.iconst 1, 1) := by decide +kernel
theorem dX10_isWater_2 : decode cX10_isWater 2 = .ok (.bipush 99, 2) := by decide +kernel
theorem dX10_isWater_4 : decode cX10_isWater 4 = .ok (.invokestatic 81, 3) := by decide +kernel
theorem dX10_isWater_7 : decode cX10_isWater 7 = .ok (.ireturn, 1) := by decide +kernel
theorem dX10_isStart_0 : decode cX10_isStart 0 = .ok (.iload_n 0, 1) := by decide +kernel
theorem dX10_isStart_1 : decode cX10_isStart 1 = .ok (.invokestatic 242, 3) := by decide +kernel
theorem dX10_isStart_4 : decode cX10_isStart 4 = .ok (.ifCond .eq 21, 3) := by decide +kernel
theorem dX10_isStart_7 : decode cX10_isStart 7 = .ok (.iload_n 1, 1) := by decide +kernel
theorem dX10_isStart_8 : decode cX10_isStart 8 = .ok (.invokestatic 139, 3) := by decide +kernel
theorem dX10_isStart_11 : decode cX10_isStart 11 = .ok (.ifCond .eq 14, 3) := by decide +kernel
theorem dX10_isStart_14 : decode cX10_isStart 14 = .ok (.iload_n 2, 1) := by decide +kernel
theorem dX10_isStart_15 : decode cX10_isStart 15 = .ok (.invokestatic 181, 3) := by decide +kernel
theorem dX10_isStart_18 : decode cX10_isStart 18 = .ok (.ifCond .eq 7, 3) := by decide +kernel
theorem dX10_isStart_21 : decode cX10_isStart 21 = .ok (.iconst 1, 1) := by decide +kernel
theorem dX10_isStart_22 : decode cX10_isStart 22 = .ok (.goto 4, 3) := by decide +kernel
theorem dX10_isStart_25 : decode cX10_isStart 25 = .ok (.iconst 0, 1) := by decide +kernel
theorem dX10_isStart_26 : decode cX10_isStart 26 = .ok (.ireturn, 1) := by decide +kernel
theorem dX10_isDropNumber_0 : decode cX10_isDropNumber 0 = .ok (.iload_n 0, 1) := by decide +kernel
theorem dX10_isDropNumber_1 : decode cX10_isDropNumber 1 = .ok (.iconst 0, 1) := by decide +kernel
theorem dX10_isDropNumber_2 : decode cX10_isDropNumber 2 = .ok (.bipush 7, 2) := by decide +kernel
theorem dX10_isDropNumber_4 : decode cX10_isDropNumber 4 = .ok (.invokestatic 81, 3) := by decide +kernel
theorem dX10_isDropNumber_7 : decode cX10_isDropNumber 7 = .ok (.ireturn, 1) := by decide +kernel
theorem dX10_isSpot_0 : decode cX10_isSpot 0 = .ok (.iload_n 0, 1) := by decide +kernel
theorem dX10_isSpot_1 : decode cX10_isSpot 1 = .ok (.iconst 0, 1) := by decide +kernel
theorem dX10_isSpot_2 : decode cX10_isSpot 2 = .ok (.bipush 9, 2) := by decide +kernel
theorem dX10_isSpot_4 : decode cX10_isSpot 4 = .ok (.invokestatic 81, 3) := by decide +kernel
theorem dX10_isSpot_7 : decode cX10_isSpot 7 = .ok (.ireturn, 1) := by decide +kernel
theorem dX10_isSheet_0 : decode cX10_isSheet 0 = .ok (.iload_n 0, 1) := by decide +kernel
theorem dX10_isSheet_1 : decode cX10_isSheet 1 = .ok (.iconst 0, 1) := by decide +kernel
theorem dX10_isSheet_2 : decode cX10_isSheet 2 = .ok (.iconst 3, 1) := by decide +kernel
theorem dX10_isSheet_3 : decode cX10_isSheet 3 = .ok (.invokestatic 81, 3) := by decide +kernel
theorem dX10_isSheet_6 : decode cX10_isSheet 6 = .ok (.ireturn, 1) := by decide +kernel
theorem dX10_isWidth_0 : decode cX10_isWidth 0 = .ok (.iload_n 0, 1) := by decide +kernel
theorem dX10_isWidth_1 : decode cX10_isWidth 1 = .ok (.ifCond .eq 21, 3) := by decide +kernel
theorem dX10_isWidth_4 : decode cX10_isWidth 4 = .ok (.iload_n 0, 1) := by decide +kernel
theorem dX10_isWidth_5 : decode cX10_isWidth 5 = .ok (.bipush 8, 2) := by decide +kernel
theorem dX10_isWidth_7 : decode cX10_isWidth 7 = .ok (.if_icmp .eq 15, 3) := by decide +kernel
theorem dX10_isWidth_10 : decode cX10_isWidth 10 = .ok (.iload_n 0, 1) := by decide +kernel
theorem dX10_isWidth_11 : decode cX10_isWidth 11 = .ok (.bipush 16, 2) := by decide +kernel
theorem dX10_isWidth_13 : decode cX10_isWidth 13 = .ok (.if_icmp .eq 9, 3) := by decide +kernel
theorem dX10_isWidth_16 : decode cX10_isWidth 16 = .ok (.iload_n 0, 1) := by decide +kernel
theorem dX10_isWidth_17 : decode cX10_isWidth 17 = .ok (.bipush 32, 2) := by decide +kernel
theorem dX10_isWidth_19 : decode cX10_isWidth 19 = .ok (.if_icmp .ne 7, 3) := by decide +kernel
theorem dX10_isWidth_22 : decode cX10_isWidth 22 = .ok (.iconst 1, 1) := by decide +kernel
theorem dX10_isWidth_23 : decode cX10_isWidth 23 = .ok (.goto 4, 3) := by decide +kernel
theorem dX10_isWidth_26 : decode cX10_isWidth 26 = .ok (.iconst 0, 1) := by decide +kernel
theorem dX10_isWidth_27 : decode cX10_isWidth 27 = .ok (.ireturn, 1) := by decide +kernel
theorem dX10_isSetting_0 : decode cX10_isSetting 0 = .ok (.iload_n 0, 1) := by decide +kernel
theorem dX10_isSetting_1 : decode cX10_isSetting 1 = .ok (.tableswitch 52 0 2 #[27, 35, 44], 27) := by decide +kernel
theorem dX10_isSetting_28 : decode cX10_isSetting 28 = .ok (.iload_n 1, 1) := by decide +kernel
theorem dX10_isSetting_29 : decode cX10_isSetting 29 = .ok (.iconst 0, 1) := by decide +kernel
theorem dX10_isSetting_30 : decode cX10_isSetting 30 = .ok (.bipush 9, 2) := by decide +kernel
theorem dX10_isSetting_32 : decode cX10_isSetting 32 = .ok (.invokestatic 81, 3) := by decide +kernel
theorem dX10_isSetting_35 : decode cX10_isSetting 35 = .ok (.ireturn, 1) := by decide +kernel
theorem dX10_isSetting_36 : decode cX10_isSetting 36 = .ok (.iload_n 1, 1) := by decide +kernel
theorem dX10_isSetting_37 : decode cX10_isSetting 37 = .ok (.bipush (-20), 2) := by decide +kernel
theorem dX10_isSetting_39 : decode cX10_isSetting 39 = .ok (.bipush 20, 2) := by decide +kernel
theorem dX10_isSetting_41 : decode cX10_isSetting 41 = .ok (.invokestatic 81, 3) := by decide +kernel
theorem dX10_isSetting_44 : decode cX10_isSetting 44 = .ok (.ireturn, 1) := by decide +kernel
theorem dX10_isSetting_45 : decode cX10_isSetting 45 = .ok (.iload_n 1, 1) := by decide +kernel
theorem dX10_isSetting_46 : decode cX10_isSetting 46 = .ok (.iconst 0, 1) := by decide +kernel
theorem dX10_isSetting_47 : decode cX10_isSetting 47 = .ok (.bipush 9, 2) := by decide +kernel
theorem dX10_isSetting_49 : decode cX10_isSetting 49 = .ok (.invokestatic 81, 3) := by decide +kernel
theorem dX10_isSetting_52 : decode cX10_isSetting 52 = .ok (.ireturn, 1) := by decide +kernel
theorem dX10_isSetting_53 : decode cX10_isSetting 53 = .ok (.iconst 0, 1) := by decide +kernel
theorem dX10_isSetting_54 : decode cX10_isSetting 54 = .ok (.ireturn, 1) := by decide +kernel
theorem dX10_isProgram_0 : decode cX10_isProgram 0 = .ok (.iload_n 1, 1) := by decide +kernel
theorem dX10_isProgram_1 : decode cX10_isProgram 1 = .ok (.iconst 0, 1) := by decide +kernel
theorem dX10_isProgram_2 : decode cX10_isProgram 2 = .ok (.aload_n 0, 1) := by decide +kernel
theorem dX10_isProgram_3 : decode cX10_isProgram 3 = .ok (.getfield 19, 3) := by decide +kernel
theorem dX10_isProgram_6 : decode cX10_isProgram 6 = .ok (.getfield 200, 3) := by decide +kernel
theorem dX10_isProgram_9 : decode cX10_isProgram 9 = .ok (.getfield 204, 3) := by decide +kernel
theorem dX10_isProgram_12 : decode cX10_isProgram 12 = .ok (.iconst 1, 1) := by decide +kernel
theorem dX10_isProgram_13 : decode cX10_isProgram 13 = .ok (.isub, 1) := by decide +kernel
theorem dX10_isProgram_14 : decode cX10_isProgram 14 = .ok (.invokestatic 81, 3) := by decide +kernel
theorem dX10_isProgram_17 : decode cX10_isProgram 17 = .ok (.ireturn, 1) := by decide +kernel
theorem dX10_columnOf_0 : decode cX10_columnOf 0 = .ok (.iload_n 0, 1) := by decide +kernel
theorem dX10_columnOf_1 : decode cX10_columnOf 1 = .ok (.bipush 12, 2) := by decide +kernel
theorem dX10_columnOf_3 : decode cX10_columnOf 3 = .ok (.irem, 1) := by decide +kernel
theorem dX10_columnOf_4 : decode cX10_columnOf 4 = .ok (.ireturn, 1) := by decide +kernel
theorem dX10_isOnLastRow_0 : decode cX10_isOnLastRow 0 = .ok (.iload_n 0, 1) := by decide +kernel
theorem dX10_isOnLastRow_1 : decode cX10_isOnLastRow 1 = .ok (.sipush 180, 3) := by decide +kernel
theorem dX10_isOnLastRow_4 : decode cX10_isOnLastRow 4 = .ok (.if_icmp .lt 7, 3) := by decide +kernel
theorem dX10_isOnLastRow_7 : decode cX10_isOnLastRow 7 = .ok (.iconst 1, 1) := by decide +kernel
theorem dX10_isOnLastRow_8 : decode cX10_isOnLastRow 8 = .ok (.goto 4, 3) := by decide +kernel
theorem dX10_isOnLastRow_11 : decode cX10_isOnLastRow 11 = .ok (.iconst 0, 1) := by decide +kernel
theorem dX10_isOnLastRow_12 : decode cX10_isOnLastRow 12 = .ok (.ireturn, 1) := by decide +kernel
theorem dX10_besideOf_0 : decode cX10_besideOf 0 = .ok (.iload_n 0, 1) := by decide +kernel
theorem dX10_besideOf_1 : decode cX10_besideOf 1 = .ok (.bipush 12, 2) := by decide +kernel
theorem dX10_besideOf_3 : decode cX10_besideOf 3 = .ok (.irem, 1) := by decide +kernel
theorem dX10_besideOf_4 : decode cX10_besideOf 4 = .ok (.iload_n 1, 1) := by decide +kernel
theorem dX10_besideOf_5 : decode cX10_besideOf 5 = .ok (.iadd, 1) := by decide +kernel
theorem dX10_besideOf_6 : decode cX10_besideOf 6 = .ok (.istore_n 2, 1) := by decide +kernel
theorem dX10_besideOf_7 : decode cX10_besideOf 7 = .ok (.iload_n 2, 1) := by decide +kernel
theorem dX10_besideOf_8 : decode cX10_besideOf 8 = .ok (.ifCond .lt 15, 3) := by decide +kernel
theorem dX10_besideOf_11 : decode cX10_besideOf 11 = .ok (.iload_n 2, 1) := by decide +kernel
theorem dX10_besideOf_12 : decode cX10_besideOf 12 = .ok (.bipush 12, 2) := by decide +kernel
theorem dX10_besideOf_14 : decode cX10_besideOf 14 = .ok (.if_icmp .ge 9, 3) := by decide +kernel
theorem dX10_besideOf_17 : decode cX10_besideOf 17 = .ok (.iload_n 0, 1) := by decide +kernel
theorem dX10_besideOf_18 : decode cX10_besideOf 18 = .ok (.iload_n 1, 1) := by decide +kernel
theorem dX10_besideOf_19 : decode cX10_besideOf 19 = .ok (.iadd, 1) := by decide +kernel
theorem dX10_besideOf_20 : decode cX10_besideOf 20 = .ok (.goto 5, 3) := by decide +kernel
theorem dX10_besideOf_23 : decode cX10_besideOf 23 = .ok (.bipush (-2), 2) := by decide +kernel
theorem dX10_besideOf_25 : decode cX10_besideOf 25 = .ok (.ireturn, 1) := by decide +kernel
theorem dX10_belowOf_0 : decode cX10_belowOf 0 = .ok (.iload_n 0, 1) := by decide +kernel
theorem dX10_belowOf_1 : decode cX10_belowOf 1 = .ok (.bipush 12, 2) := by decide +kernel
theorem dX10_belowOf_3 : decode cX10_belowOf 3 = .ok (.iadd, 1) := by decide +kernel
theorem dX10_belowOf_4 : decode cX10_belowOf 4 = .ok (.istore_n 2, 1) := by decide +kernel
theorem dX10_belowOf_5 : decode cX10_belowOf 5 = .ok (.iload_n 1, 1) := by decide +kernel
theorem dX10_belowOf_6 : decode cX10_belowOf 6 = .ok (.lookupswitch 34 #[(0, 26), (1, 28)], 26) := by decide +kernel
theorem dX10_belowOf_32 : decode cX10_belowOf 32 = .ok (.iload_n 2, 1) := by decide +kernel
theorem dX10_belowOf_33 : decode cX10_belowOf 33 = .ok (.ireturn, 1) := by decide +kernel
theorem dX10_belowOf_34 : decode cX10_belowOf 34 = .ok (.iload_n 2, 1) := by decide +kernel
theorem dX10_belowOf_35 : decode cX10_belowOf 35 = .ok (.iconst (-1), 1) := by decide +kernel
theorem dX10_belowOf_36 : decode cX10_belowOf 36 = .ok (.invokestatic 330, 3) := by decide +kernel
theorem dX10_belowOf_39 : decode cX10_belowOf 39 = .ok (.ireturn, 1) := by decide +kernel
theorem dX10_belowOf_40 : decode cX10_belowOf 40 = .ok (.iload_n 2, 1) := by decide +kernel
theorem dX10_belowOf_41 : decode cX10_belowOf 41 = .ok (.iconst 1, 1) := by decide +kernel
theorem dX10_belowOf_42 : decode cX10_belowOf 42 = .ok (.invokestatic 330, 3) := by decide +kernel
theorem dX10_belowOf_45 : decode cX10_belowOf 45 = .ok (.ireturn, 1) := by decide +kernel
theorem dX10_isUnder_0 : decode cX10_isUnder 0 = .ok (.iload_n 0, 1) := by decide +kernel
theorem dX10_isUnder_1 : decode cX10_isUnder 1 = .ok (.istore_n 2, 1) := by decide +kernel
theorem dX10_isUnder_2 : decode cX10_isUnder 2 = .ok (.iconst 0, 1) := by decide +kernel
theorem dX10_isUnder_3 : decode cX10_isUnder 3 = .ok (.istore_n 3, 1) := by decide +kernel
theorem dX10_isUnder_4 : decode cX10_isUnder 4 = .ok (.iload_n 3, 1) := by decide +kernel
theorem dX10_isUnder_5 : decode cX10_isUnder 5 = .ok (.bipush 8, 2) := by decide +kernel
theorem dX10_isUnder_7 : decode cX10_isUnder 7 = .ok (.if_icmp .ge 29, 3) := by decide +kernel
theorem dX10_isUnder_10 : decode cX10_isUnder 10 = .ok (.iload_n 2, 1) := by decide +kernel
theorem dX10_isUnder_11 : decode cX10_isUnder 11 = .ok (.invokestatic 242, 3) := by decide +kernel
theorem dX10_isUnder_14 : decode cX10_isUnder 14 = .ok (.ifCond .eq 22, 3) := by decide +kernel
theorem dX10_isUnder_17 : decode cX10_isUnder 17 = .ok (.iload_n 2, 1) := by decide +kernel
theorem dX10_isUnder_18 : decode cX10_isUnder 18 = .ok (.iload_n 1, 1) := by decide +kernel
theorem dX10_isUnder_19 : decode cX10_isUnder 19 = .ok (.if_icmp .ne 5, 3) := by decide +kernel
theorem dX10_isUnder_22 : decode cX10_isUnder 22 = .ok (.iconst 1, 1) := by decide +kernel
theorem dX10_isUnder_23 : decode cX10_isUnder 23 = .ok (.ireturn, 1) := by decide +kernel
theorem dX10_isUnder_24 : decode cX10_isUnder 24 = .ok (.getstatic 334, 3) := by decide +kernel
theorem dX10_isUnder_27 : decode cX10_isUnder 27 = .ok (.iload_n 2, 1) := by decide +kernel
theorem dX10_isUnder_28 : decode cX10_isUnder 28 = .ok (.iaload, 1) := by decide +kernel
theorem dX10_isUnder_29 : decode cX10_isUnder 29 = .ok (.istore_n 2, 1) := by decide +kernel
theorem dX10_isUnder_30 : decode cX10_isUnder 30 = .ok (.iinc 3 1, 3) := by decide +kernel
theorem dX10_isUnder_33 : decode cX10_isUnder 33 = .ok (.goto (-29), 3) := by decide +kernel
theorem dX10_isUnder_36 : decode cX10_isUnder 36 = .ok (.iconst 0, 1) := by decide +kernel
theorem dX10_isUnder_37 : decode cX10_isUnder 37 = .ok (.ireturn, 1) := by decide +kernel
theorem dX10_countAbove0_0 : decode cX10_countAbove0 0 = .ok (.iconst 0, 1) := by decide +kernel
theorem dX10_countAbove0_1 : decode cX10_countAbove0 1 = .ok (.istore_n 1, 1) := by decide +kernel
theorem dX10_countAbove0_2 : decode cX10_countAbove0 2 = .ok (.aload_n 0, 1) := by decide +kernel
theorem dX10_countAbove0_3 : decode cX10_countAbove0 3 = .ok (.astore_n 2, 1) := by decide +kernel
theorem dX10_countAbove0_4 : decode cX10_countAbove0 4 = .ok (.aload_n 2, 1) := by decide +kernel
theorem dX10_countAbove0_5 : decode cX10_countAbove0 5 = .ok (.arraylength, 1) := by decide +kernel
theorem dX10_countAbove0_6 : decode cX10_countAbove0 6 = .ok (.istore_n 3, 1) := by decide +kernel
theorem dX10_countAbove0_7 : decode cX10_countAbove0 7 = .ok (.iconst 0, 1) := by decide +kernel
theorem dX10_countAbove0_8 : decode cX10_countAbove0 8 = .ok (.istore 4, 2) := by decide +kernel
theorem dX10_countAbove0_10 : decode cX10_countAbove0 10 = .ok (.iload 4, 2) := by decide +kernel
theorem dX10_countAbove0_12 : decode cX10_countAbove0 12 = .ok (.iload_n 3, 1) := by decide +kernel
theorem dX10_countAbove0_13 : decode cX10_countAbove0 13 = .ok (.if_icmp .ge 23, 3) := by decide +kernel
theorem dX10_countAbove0_16 : decode cX10_countAbove0 16 = .ok (.aload_n 2, 1) := by decide +kernel
theorem dX10_countAbove0_17 : decode cX10_countAbove0 17 = .ok (.iload 4, 2) := by decide +kernel
theorem dX10_countAbove0_19 : decode cX10_countAbove0 19 = .ok (.iaload, 1) := by decide +kernel
theorem dX10_countAbove0_20 : decode cX10_countAbove0 20 = .ok (.istore 5, 2) := by decide +kernel
theorem dX10_countAbove0_22 : decode cX10_countAbove0 22 = .ok (.iload 5, 2) := by decide +kernel
theorem dX10_countAbove0_24 : decode cX10_countAbove0 24 = .ok (.ifCond .le 6, 3) := by decide +kernel
theorem dX10_countAbove0_27 : decode cX10_countAbove0 27 = .ok (.iinc 1 1, 3) := by decide +kernel
theorem dX10_countAbove0_30 : decode cX10_countAbove0 30 = .ok (.iinc 4 1, 3) := by decide +kernel
theorem dX10_countAbove0_33 : decode cX10_countAbove0 33 = .ok (.goto (-23), 3) := by decide +kernel
theorem dX10_countAbove0_36 : decode cX10_countAbove0 36 = .ok (.iload_n 1, 1) := by decide +kernel
theorem dX10_countAbove0_37 : decode cX10_countAbove0 37 = .ok (.ireturn, 1) := by decide +kernel
theorem dX10_sumOf_0 : decode cX10_sumOf 0 = .ok (.iconst 0, 1) := by decide +kernel
theorem dX10_sumOf_1 : decode cX10_sumOf 1 = .ok (.istore_n 1, 1) := by decide +kernel
theorem dX10_sumOf_2 : decode cX10_sumOf 2 = .ok (.aload_n 0, 1) := by decide +kernel
theorem dX10_sumOf_3 : decode cX10_sumOf 3 = .ok (.astore_n 2, 1) := by decide +kernel
theorem dX10_sumOf_4 : decode cX10_sumOf 4 = .ok (.aload_n 2, 1) := by decide +kernel
theorem dX10_sumOf_5 : decode cX10_sumOf 5 = .ok (.arraylength, 1) := by decide +kernel
theorem dX10_sumOf_6 : decode cX10_sumOf 6 = .ok (.istore_n 3, 1) := by decide +kernel
theorem dX10_sumOf_7 : decode cX10_sumOf 7 = .ok (.iconst 0, 1) := by decide +kernel
theorem dX10_sumOf_8 : decode cX10_sumOf 8 = .ok (.istore 4, 2) := by decide +kernel
theorem dX10_sumOf_10 : decode cX10_sumOf 10 = .ok (.iload 4, 2) := by decide +kernel
theorem dX10_sumOf_12 : decode cX10_sumOf 12 = .ok (.iload_n 3, 1) := by decide +kernel
theorem dX10_sumOf_13 : decode cX10_sumOf 13 = .ok (.if_icmp .ge 20, 3) := by decide +kernel
theorem dX10_sumOf_16 : decode cX10_sumOf 16 = .ok (.aload_n 2, 1) := by decide +kernel
theorem dX10_sumOf_17 : decode cX10_sumOf 17 = .ok (.iload 4, 2) := by decide +kernel
theorem dX10_sumOf_19 : decode cX10_sumOf 19 = .ok (.iaload, 1) := by decide +kernel
theorem dX10_sumOf_20 : decode cX10_sumOf 20 = .ok (.istore 5, 2) := by decide +kernel
theorem dX10_sumOf_22 : decode cX10_sumOf 22 = .ok (.iload_n 1, 1) := by decide +kernel
theorem dX10_sumOf_23 : decode cX10_sumOf 23 = .ok (.iload 5, 2) := by decide +kernel
theorem dX10_sumOf_25 : decode cX10_sumOf 25 = .ok (.iadd, 1) := by decide +kernel
theorem dX10_sumOf_26 : decode cX10_sumOf 26 = .ok (.istore_n 1, 1) := by decide +kernel
theorem dX10_sumOf_27 : decode cX10_sumOf 27 = .ok (.iinc 4 1, 3) := by decide +kernel
theorem dX10_sumOf_30 : decode cX10_sumOf 30 = .ok (.goto (-20), 3) := by decide +kernel
theorem dX10_sumOf_33 : decode cX10_sumOf 33 = .ok (.iload_n 1, 1) := by decide +kernel
theorem dX10_sumOf_34 : decode cX10_sumOf 34 = .ok (.ireturn, 1) := by decide +kernel
theorem dX10_copyAll_0 : decode cX10_copyAll 0 = .ok (.aload_n 0, 1) := by decide +kernel
theorem dX10_copyAll_1 : decode cX10_copyAll 1 = .ok (.iconst 0, 1) := by decide +kernel
theorem dX10_copyAll_2 : decode cX10_copyAll 2 = .ok (.aload_n 1, 1) := by decide +kernel
theorem dX10_copyAll_3 : decode cX10_copyAll 3 = .ok (.iconst 0, 1) := by decide +kernel
theorem dX10_copyAll_4 : decode cX10_copyAll 4 = .ok (.aload_n 0, 1) := by decide +kernel
theorem dX10_copyAll_5 : decode cX10_copyAll 5 = .ok (.arraylength, 1) := by decide +kernel
theorem dX10_copyAll_6 : decode cX10_copyAll 6 = .ok (.aload_n 1, 1) := by decide +kernel
theorem dX10_copyAll_7 : decode cX10_copyAll 7 = .ok (.arraylength, 1) := by decide +kernel
theorem dX10_copyAll_8 : decode cX10_copyAll 8 = .ok (.invokestatic 337, 3) := by decide +kernel
theorem dX10_copyAll_11 : decode cX10_copyAll 11 = .ok (.invokestatic 312, 3) := by decide +kernel
theorem dX10_copyAll_14 : decode cX10_copyAll 14 = .ok (.return_, 1) := by decide +kernel
theorem dX11_init_0 : decode cX11_init 0 = .ok (.aload_n 0, 1) := by decide +kernel
theorem dX11_init_1 : decode cX11_init 1 = .ok (.invokespecial 3, 3) := by decide +kernel
theorem dX11_init_4 : decode cX11_init 4 = .ok (.aload_n 0, 1) := by decide +kernel
theorem dX11_init_5 : decode cX11_init 5 = .ok (.sipush 666, 3) := by decide +kernel
theorem dX11_init_8 : decode cX11_init 8 = .ok (.newarray .int, 2) := by decide +kernel
theorem dX11_init_10 : decode cX11_init 10 = .ok (.putfield 9, 3) := by decide +kernel
theorem dX11_init_13 : decode cX11_init 13 = .ok (.aload_n 0, 1) := by decide +kernel
theorem dX11_init_14 : decode cX11_init 14 = .ok (.sipush 666, 3) := by decide +kernel
theorem dX11_init_17 : decode cX11_init 17 = .ok (.newarray .int, 2) := by decide +kernel
theorem dX11_init_19 : decode cX11_init 19 = .ok (.putfield 13, 3) := by decide +kernel
theorem dX11_init_22 : decode cX11_init 22 = .ok (.aload_n 0, 1) := by decide +kernel
theorem dX11_init_23 : decode cX11_init 23 = .ok (.bipush 7, 2) := by decide +kernel
theorem dX11_init_25 : decode cX11_init 25 = .ok (.newarray .int, 2) := by decide +kernel
theorem dX11_init_27 : decode cX11_init 27 = .ok (.putfield 16, 3) := by decide +kernel
theorem dX11_init_30 : decode cX11_init 30 = .ok (.aload_n 0, 1) := by decide +kernel
theorem dX11_init_31 : decode cX11_init 31 = .ok (.bipush 100, 2) := by decide +kernel
theorem dX11_init_33 : decode cX11_init 33 = .ok (.newarray .int, 2) := by decide +kernel
theorem dX11_init_35 : decode cX11_init 35 = .ok (.putfield 19, 3) := by decide +kernel
theorem dX11_init_38 : decode cX11_init 38 = .ok (.aload_n 0, 1) := by decide +kernel
theorem dX11_init_39 : decode cX11_init 39 = .ok (.bipush 65, 2) := by decide +kernel
theorem dX11_init_41 : decode cX11_init 41 = .ok (.newarray .int, 2) := by decide +kernel
theorem dX11_init_43 : decode cX11_init 43 = .ok (.putfield 22, 3) := by decide +kernel
theorem dX11_init_46 : decode cX11_init 46 = .ok (.aload_n 0, 1) := by decide +kernel
theorem dX11_init_47 : decode cX11_init 47 = .ok (.bipush 65, 2) := by decide +kernel
theorem dX11_init_49 : decode cX11_init 49 = .ok (.newarray .int, 2) := by decide +kernel
theorem dX11_init_51 : decode cX11_init 51 = .ok (.putfield 25, 3) := by decide +kernel
theorem dX11_init_54 : decode cX11_init 54 = .ok (.aload_n 0, 1) := by decide +kernel
theorem dX11_init_55 : decode cX11_init 55 = .ok (.sipush 192, 3) := by decide +kernel
theorem dX11_init_58 : decode cX11_init 58 = .ok (.newarray .int, 2) := by decide +kernel
theorem dX11_init_60 : decode cX11_init 60 = .ok (.putfield 28, 3) := by decide +kernel
theorem dX11_init_63 : decode cX11_init 63 = .ok (.aload_n 0, 1) := by decide +kernel
theorem dX11_init_64 : decode cX11_init 64 = .ok (.iconst 4, 1) := by decide +kernel
theorem dX11_init_65 : decode cX11_init 65 = .ok (.newarray .int, 2) := by decide +kernel
theorem dX11_init_67 : decode cX11_init 67 = .ok (.putfield 31, 3) := by decide +kernel
theorem dX11_init_70 : decode cX11_init 70 = .ok (.aload_n 0, 1) := by decide +kernel
theorem dX11_init_71 : decode cX11_init 71 = .ok (.iconst 4, 1) := by decide +kernel
theorem dX11_init_72 : decode cX11_init 72 = .ok (.newarray .int, 2) := by decide +kernel
theorem dX11_init_74 : decode cX11_init 74 = .ok (.putfield 34, 3) := by decide +kernel
theorem dX11_init_77 : decode cX11_init 77 = .ok (.aload_n 0, 1) := by decide +kernel
theorem dX11_init_78 : decode cX11_init 78 = .ok (.sipush 160, 3) := by decide +kernel
theorem dX11_init_81 : decode cX11_init 81 = .ok (.newarray .int, 2) := by decide +kernel
theorem dX11_init_83 : decode cX11_init 83 = .ok (.putfield 37, 3) := by decide +kernel
theorem dX11_init_86 : decode cX11_init 86 = .ok (.aload_n 0, 1) := by decide +kernel
theorem dX11_init_87 : decode cX11_init 87 = .ok (.getfield 9, 3) := by decide +kernel
theorem dX11_init_90 : decode cX11_init 90 = .ok (.iconst 0, 1) := by decide +kernel
theorem dX11_init_91 : decode cX11_init 91 = .ok (.iconst 3, 1) := by decide +kernel
theorem dX11_init_92 : decode cX11_init 92 = .ok (.iastore, 1) := by decide +kernel
theorem dX11_init_93 : decode cX11_init 93 = .ok (.aload_n 0, 1) := by decide +kernel
theorem dX11_init_94 : decode cX11_init 94 = .ok (.getfield 9, 3) := by decide +kernel
theorem dX11_init_97 : decode cX11_init 97 = .ok (.iconst 2, 1) := by decide +kernel
theorem dX11_init_98 : decode cX11_init 98 = .ok (.iconst 1, 1) := by decide +kernel
theorem dX11_init_99 : decode cX11_init 99 = .ok (.iastore, 1) := by decide +kernel
theorem dX11_init_100 : decode cX11_init 100 = .ok (.aload_n 0, 1) := by decide +kernel
theorem dX11_init_101 : decode cX11_init 101 = .ok (.getfield 9, 3) := by decide +kernel
theorem dX11_init_104 : decode cX11_init 104 = .ok (.iconst 3, 1) := by decide +kernel
theorem dX11_init_105 : decode cX11_init 105 = .ok (.iconst 1, 1) := by decide +kernel
theorem dX11_init_106 : decode cX11_init 106 = .ok (.iastore, 1) := by decide +kernel
theorem dX11_init_107 : decode cX11_init 107 = .ok (.iconst 0, 1) := by decide +kernel
theorem dX11_init_108 : decode cX11_init 108 = .ok (.istore_n 1, 1) := by decide +kernel
theorem dX11_init_109 : decode cX11_init 109 = .ok (.iload_n 1, 1) := by decide +kernel
theorem dX11_init_110 : decode cX11_init 110 = .ok (.bipush 8, 2) := by decide +kernel
theorem dX11_init_112 : decode cX11_init 112 = .ok (.if_icmp .ge 22, 3) := by decide +kernel
theorem dX11_init_115 : decode cX11_init 115 = .ok (.aload_n 0, 1) := by decide +kernel
theorem dX11_init_116 : decode cX11_init 116 = .ok (.getfield 9, 3) := by decide +kernel
theorem dX11_init_119 : decode cX11_init 119 = .ok (.sipush 402, 3) := by decide +kernel
theorem dX11_init_122 : decode cX11_init 122 = .ok (.iconst 4, 1) := by decide +kernel
theorem dX11_init_123 : decode cX11_init 123 = .ok (.iload_n 1, 1) := by decide +kernel
theorem dX11_init_124 : decode cX11_init 124 = .ok (.imul, 1) := by decide +kernel
theorem dX11_init_125 : decode cX11_init 125 = .ok (.iadd, 1) := by decide +kernel
theorem dX11_init_126 : decode cX11_init 126 = .ok (.iconst (-1), 1) := by decide +kernel
theorem dX11_init_127 : decode cX11_init 127 = .ok (.iastore, 1) := by decide +kernel
theorem dX11_init_128 : decode cX11_init 128 = .ok (.iinc 1 1, 3) := by decide +kernel
theorem dX11_init_131 : decode cX11_init 131 = .ok (.goto (-22), 3) := by decide +kernel
theorem dX11_init_134 : decode cX11_init 134 = .ok (.iconst 0, 1) := by decide +kernel
theorem dX11_init_135 : decode cX11_init 135 = .ok (.istore_n 1, 1) := by decide +kernel
theorem dX11_init_136 : decode cX11_init 136 = .ok (.iload_n 1, 1) := by decide +kernel
theorem dX11_init_137 : decode cX11_init 137 = .ok (.bipush 10, 2) := by decide +kernel
theorem dX11_init_139 : decode cX11_init 139 = .ok (.if_icmp .ge 20, 3) := by decide +kernel
theorem dX11_init_142 : decode cX11_init 142 = .ok (.aload_n 0, 1) := by decide +kernel
theorem dX11_init_143 : decode cX11_init 143 = .ok (.getfield 9, 3) := by decide +kernel
theorem dX11_init_146 : decode cX11_init 146 = .ok (.sipush 656, 3) := by decide +kernel
theorem dX11_init_149 : decode cX11_init 149 = .ok (.iload_n 1, 1) := by decide +kernel
theorem dX11_init_150 : decode cX11_init 150 = .ok (.iadd, 1) := by decide +kernel
theorem dX11_init_151 : decode cX11_init 151 = .ok (.iconst (-1), 1) := by decide +kernel
theorem dX11_init_152 : decode cX11_init 152 = .ok (.iastore, 1) := by decide +kernel
theorem dX11_init_153 : decode cX11_init 153 = .ok (.iinc 1 1, 3) := by decide +kernel
theorem dX11_init_156 : decode cX11_init 156 = .ok (.goto (-20), 3) := by decide +kernel
theorem dX11_init_159 : decode cX11_init 159 = .ok (.return_, 1) := by decide +kernel
theorem dX11_finds_0 : decode cX11_finds 0 = .ok (.aload_n 0, 1) := by decide +kernel
theorem dX11_finds_1 : decode cX11_finds 1 = .ok (.getfield 16, 3) := by decide +kernel
theorem dX11_finds_4 : decode cX11_finds 4 = .ok (.ldc 40, 2) := by decide +kernel
theorem dX11_finds_6 : decode cX11_finds 6 = .ok (.iload_n 1, 1) := by decide +kernel
theorem dX11_finds_7 : decode cX11_finds 7 = .ok (.isub, 1) := by decide +kernel
theorem dX11_finds_8 : decode cX11_finds 8 = .ok (.dup2, 1) := by decide +kernel
theorem dX11_finds_9 : decode cX11_finds 9 = .ok (.iaload, 1) := by decide +kernel
theorem dX11_finds_10 : decode cX11_finds 10 = .ok (.iconst 1, 1) := by decide +kernel
theorem dX11_finds_11 : decode cX11_finds 11 = .ok (.iadd, 1) := by decide +kernel
theorem dX11_finds_12 : decode cX11_finds 12 = .ok (.iastore, 1) := by decide +kernel
theorem dX11_finds_13 : decode cX11_finds 13 = .ok (.iload_n 1, 1) := by decide +kernel
theorem dX11_finds_14 : decode cX11_finds 14 = .ok (.ireturn, 1) := by decide +kernel
theorem dX11_in_0 : decode cX11_in 0 = .ok (.lload_n 0, 1) := by decide +kernel
theorem dX11_in_1 : decode cX11_in 1 = .ok (.lload_n 2, 1) := by decide +kernel
theorem dX11_in_2 : decode cX11_in 2 = .ok (.lcmp, 1) := by decide +kernel
theorem dX11_in_3 : decode cX11_in 3 = .ok (.ifCond .lt 14, 3) := by decide +kernel
theorem dX11_in_6 : decode cX11_in 6 = .ok (.lload_n 0, 1) := by decide +kernel
theorem dX11_in_7 : decode cX11_in 7 = .ok (.lload 4, 2) := by decide +kernel
theorem dX11_in_9 : decode cX11_in 9 = .ok (.lcmp, 1) := by decide +kernel
theorem dX11_in_10 : decode cX11_in 10 = .ok (.ifCond .gt 7, 3) := by decide +kernel
theorem dX11_in_13 : decode cX11_in 13 = .ok (.iconst 1, 1) := by decide +kernel
theorem dX11_in_14 : decode cX11_in 14 = .ok (.goto 4, 3) := by decide +kernel
theorem dX11_in_17 : decode cX11_in 17 = .ok (.iconst 0, 1) := by decide +kernel
theorem dX11_in_18 : decode cX11_in 18 = .ok (.ireturn, 1) := by decide +kernel
theorem dX11_isCell_0 : decode cX11_isCell 0 = .ok (.iload_n 0, 1) := by decide +kernel
theorem dX11_isCell_1 : decode cX11_isCell 1 = .ok (.i2l, 1) := by decide +kernel
theorem dX11_isCell_2 : decode cX11_isCell 2 = .ok (.lconst 0, 1) := by decide +kernel
theorem dX11_isCell_3 : decode cX11_isCell 3 = .ok (.ldc2_w 41, 3) := by decide +kernel
theorem dX11_isCell_6 : decode cX11_isCell 6 = .ok (.invokestatic 43, 3) := by decide +kernel
theorem dX11_isCell_9 : decode cX11_isCell 9 = .ok (.ireturn, 1) := by decide +kernel
theorem dX11_isColumn_0 : decode cX11_isColumn 0 = .ok (.iload_n 0, 1) := by decide +kernel
theorem dX11_isColumn_1 : decode cX11_isColumn 1 = .ok (.i2l, 1) := by decide +kernel
theorem dX11_isColumn_2 : decode cX11_isColumn 2 = .ok (.lconst 0, 1) := by decide +kernel
theorem dX11_isColumn_3 : decode cX11_isColumn 3 = .ok (.ldc2_w 47, 3) := by decide +kernel
theorem dX11_isColumn_6 : decode cX11_isColumn 6 = .ok (.invokestatic 43, 3) := by decide +kernel
theorem dX11_isColumn_9 : decode cX11_isColumn 9 = .ok (.ireturn, 1) := by decide +kernel
theorem dX11_isWater_0 : decode cX11_isWater 0 = .ok (.iload_n 0, 1) := by decide +kernel
theorem dX11_isWater_1 : decode cX11_isWater 1 = .ok (.i2l, 1) := by decide +kernel
theorem dX11_isWater_2 : decode cX11_isWater 2 = .ok (.lconst 1, 1) := by decide +kernel
theorem dX11_isWater_3 : decode cX11_isWater 3 = .ok (.ldc2_w 49, 3) := by decide +kernel
theorem dX11_isWater_6 : decode cX11_isWater 6 = .ok (.invokestatic 43, 3) := by decide +kernel
theorem dX11_isWater_9 : decode cX11_isWater 9 = .ok (.ireturn, 1) := by decide +kernel
theorem dX11_isKind_0 : decode cX11_isKind 0 = .ok (.iload_n 0, 1) := by decide +kernel
theorem dX11_isKind_1 : decode cX11_isKind 1 = .ok (.i2l, 1) := by decide +kernel
theorem dX11_isKind_2 : decode cX11_isKind 2 = .ok (.lconst 0, 1) := by decide +kernel
theorem dX11_isKind_3 : decode cX11_isKind 3 = .ok (.ldc2_w 51, 3) := by decide +kernel
theorem dX11_isKind_6 : decode cX11_isKind 6 = .ok (.invokestatic 43, 3) := by decide +kernel
theorem dX11_isKind_9 : decode cX11_isKind 9 = .ok (.ireturn, 1) := by decide +kernel
theorem dX11_of_0 : decode cX11_of 0 = .ok (.aload_n 0, 1) := by decide +kernel
theorem dX11_of_1 : decode cX11_of 1 = .ok (.getfield 9, 3) := by decide +kernel
theorem dX11_of_4 : decode cX11_of 4 = .ok (.sipush 402, 3) := by decide +kernel
theorem dX11_of_7 : decode cX11_of 7 = .ok (.iconst 4, 1) := by decide +kernel
theorem dX11_of_8 : decode cX11_of 8 = .ok (.iload_n 1, 1) := by decide +kernel
theorem dX11_of_9 : decode cX11_of 9 = .ok (.imul, 1) := by decide +kernel
theorem dX11_of_10 : decode cX11_of 10 = .ok (.iadd, 1) := by decide +kernel
theorem dX11_of_11 : decode cX11_of 11 = .ok (.iload_n 2, 1) := by decide +kernel
theorem dX11_of_12 : decode cX11_of 12 = .ok (.iadd, 1) := by decide +kernel
theorem dX11_of_13 : decode cX11_of 13 = .ok (.iaload, 1) := by decide +kernel
theorem dX11_of_14 : decode cX11_of 14 = .ok (.ireturn, 1) := by decide +kernel
theorem dX11_isDrop_0 : decode cX11_isDrop 0 = .ok (.iload_n 1, 1) := by decide +kernel
theorem dX11_isDrop_1 : decode cX11_isDrop 1 = .ok (.i2l, 1) := by decide +kernel
theorem dX11_isDrop_2 : decode cX11_isDrop 2 = .ok (.lconst 0, 1) := by decide +kernel
theorem dX11_isDrop_3 : decode cX11_isDrop 3 = .ok (.ldc2_w 51, 3) := by decide +kernel
theorem dX11_isDrop_6 : decode cX11_isDrop 6 = .ok (.invokestatic 43, 3) := by decide +kernel
theorem dX11_isDrop_9 : decode cX11_isDrop 9 = .ok (.ifCond .eq 16, 3) := by decide +kernel
theorem dX11_isDrop_12 : decode cX11_isDrop 12 = .ok (.aload_n 0, 1) := by decide +kernel
theorem dX11_isDrop_13 : decode cX11_isDrop 13 = .ok (.iload_n 1, 1) := by decide +kernel
theorem dX11_isDrop_14 : decode cX11_isDrop 14 = .ok (.iconst 0, 1) := by decide +kernel
theorem dX11_isDrop_15 : decode cX11_isDrop 15 = .ok (.invokevirtual 53, 3) := by decide +kernel
theorem dX11_isDrop_18 : decode cX11_isDrop 18 = .ok (.ifCond .lt 7, 3) := by decide +kernel
theorem dX11_isDrop_21 : decode cX11_isDrop 21 = .ok (.iconst 1, 1) := by decide +kernel
theorem dX11_isDrop_22 : decode cX11_isDrop 22 = .ok (.goto 4, 3) := by decide +kernel
theorem dX11_isDrop_25 : decode cX11_isDrop 25 = .ok (.iconst 0, 1) := by decide +kernel
theorem dX11_isDrop_26 : decode cX11_isDrop 26 = .ok (.ireturn, 1) := by decide +kernel
theorem dX11_drops_0 : decode cX11_drops 0 = .ok (.iconst 0, 1) := by decide +kernel
theorem dX11_drops_1 : decode cX11_drops 1 = .ok (.istore_n 1, 1) := by decide +kernel
theorem dX11_drops_2 : decode cX11_drops 2 = .ok (.iconst 0, 1) := by decide +kernel
theorem dX11_drops_3 : decode cX11_drops 3 = .ok (.istore_n 2, 1) := by decide +kernel
theorem dX11_drops_4 : decode cX11_drops 4 = .ok (.iload_n 2, 1) := by decide +kernel
theorem dX11_drops_5 : decode cX11_drops 5 = .ok (.bipush 8, 2) := by decide +kernel
theorem dX11_drops_7 : decode cX11_drops 7 = .ok (.if_icmp .ge 26, 3) := by decide +kernel
theorem dX11_drops_10 : decode cX11_drops 10 = .ok (.iload_n 1, 1) := by decide +kernel
theorem dX11_drops_11 : decode cX11_drops 11 = .ok (.aload_n 0, 1) := by decide +kernel
theorem dX11_drops_12 : decode cX11_drops 12 = .ok (.iload_n 2, 1) := by decide +kernel
theorem dX11_drops_13 : decode cX11_drops 13 = .ok (.iconst 0, 1) := by decide +kernel
theorem dX11_drops_14 : decode cX11_drops 14 = .ok (.invokevirtual 53, 3) := by decide +kernel
theorem dX11_drops_17 : decode cX11_drops 17 = .ok (.ifCond .lt 7, 3) := by decide +kernel
theorem dX11_drops_20 : decode cX11_drops 20 = .ok (.iconst 1, 1) := by decide +kernel
theorem dX11_drops_21 : decode cX11_drops 21 = .ok (.goto 4, 3) := by decide +kernel
theorem dX11_drops_24 : decode cX11_drops 24 = .ok (.iconst 0, 1) := by decide +kernel
theorem dX11_drops_25 : decode cX11_drops 25 = .ok (.iadd, 1) := by decide +kernel
theorem dX11_drops_26 : decode cX11_drops 26 = .ok (.istore_n 1, 1) := by decide +kernel
theorem dX11_drops_27 : decode cX11_drops 27 = .ok (.iinc 2 1, 3) := by decide +kernel
theorem dX11_drops_30 : decode cX11_drops 30 = .ok (.goto (-26), 3) := by decide +kernel
theorem dX11_drops_33 : decode cX11_drops 33 = .ok (.iload_n 1, 1) := by decide +kernel
theorem dX11_drops_34 : decode cX11_drops 34 = .ok (.ireturn, 1) := by decide +kernel
theorem dX11_becomes_0 : decode cX11_becomes 0 = .ok (.aload_n 0, 1) := by decide +kernel
theorem dX11_becomes_1 : decode cX11_becomes 1 = .ok (.getfield 9, 3) := by decide +kernel
theorem dX11_becomes_4 : decode cX11_becomes 4 = .ok (.iload_n 1, 1) := by decide +kernel
theorem dX11_becomes_5 : decode cX11_becomes 5 = .ok (.iaload, 1) := by decide +kernel
theorem dX11_becomes_6 : decode cX11_becomes 6 = .ok (.istore_n 3, 1) := by decide +kernel
theorem dX11_becomes_7 : decode cX11_becomes 7 = .ok (.aload_n 0, 1) := by decide +kernel
theorem dX11_becomes_8 : decode cX11_becomes 8 = .ok (.getfield 9, 3) := by decide +kernel
theorem dX11_becomes_11 : decode cX11_becomes 11 = .ok (.iload_n 1, 1) := by decide +kernel
theorem dX11_becomes_12 : decode cX11_becomes 12 = .ok (.iload_n 2, 1) := by decide +kernel
theorem dX11_becomes_13 : decode cX11_becomes 13 = .ok (.iastore, 1) := by decide +kernel
theorem dX11_becomes_14 : decode cX11_becomes 14 = .ok (.iload_n 3, 1) := by decide +kernel
theorem dX11_becomes_15 : decode cX11_becomes 15 = .ok (.ireturn, 1) := by decide +kernel
theorem dX11_wetOf_0 : decode cX11_wetOf 0 = .ok (.aload_n 0, 1) := by decide +kernel
theorem dX11_wetOf_1 : decode cX11_wetOf 1 = .ok (.getfield 57, 3) := by decide +kernel
theorem dX11_wetOf_4 : decode cX11_wetOf 4 = .ok (.ifCond .eq 7, 3) := by decide +kernel
theorem dX11_wetOf_7 : decode cX11_wetOf 7 = .ok (.iconst 0, 1) := by decide +kernel
theorem dX11_wetOf_8 : decode cX11_wetOf 8 = .ok (.goto 13, 3) := by decide +kernel
theorem dX11_wetOf_11 : decode cX11_wetOf 11 = .ok (.aload_n 0, 1) := by decide +kernel
theorem dX11_wetOf_12 : decode cX11_wetOf 12 = .ok (.getfield 9, 3) := by decide +kernel
theorem dX11_wetOf_15 : decode cX11_wetOf 15 = .ok (.sipush 210, 3) := by decide +kernel
theorem dX11_wetOf_18 : decode cX11_wetOf 18 = .ok (.iload_n 1, 1) := by decide +kernel
theorem dX11_wetOf_19 : decode cX11_wetOf 19 = .ok (.iadd, 1) := by decide +kernel
theorem dX11_wetOf_20 : decode cX11_wetOf 20 = .ok (.iaload, 1) := by decide +kernel
theorem dX11_wetOf_21 : decode cX11_wetOf 21 = .ok (.ireturn, 1) := by decide +kernel
theorem dX11_holdOf_0 : decode cX11_holdOf 0 = .ok (.iconst 3, 1) := by decide +kernel
theorem dX11_holdOf_1 : decode cX11_holdOf 1 = .ok (.aload_n 0, 1) := by decide +kernel
theorem dX11_holdOf_2 : decode cX11_holdOf 2 = .ok (.getfield 9, 3) := by decide +kernel
theorem dX11_holdOf_5 : decode cX11_holdOf 5 = .ok (.bipush 18, 2) := by decide +kernel
theorem dX11_holdOf_7 : decode cX11_holdOf 7 = .ok (.iload_n 1, 1) := by decide +kernel
theorem dX11_holdOf_8 : decode cX11_holdOf 8 = .ok (.iadd, 1) := by decide +kernel
theorem dX11_holdOf_9 : decode cX11_holdOf 9 = .ok (.iaload, 1) := by decide +kernel
theorem dX11_holdOf_10 : decode cX11_holdOf 10 = .ok (.imul, 1) := by decide +kernel
theorem dX11_holdOf_11 : decode cX11_holdOf 11 = .ok (.aload_n 0, 1) := by decide +kernel
theorem dX11_holdOf_12 : decode cX11_holdOf 12 = .ok (.iload_n 1, 1) := by decide +kernel
theorem dX11_holdOf_13 : decode cX11_holdOf 13 = .ok (.invokevirtual 61, 3) := by decide +kernel
theorem dX11_holdOf_16 : decode cX11_holdOf 16 = .ok (.bipush 10, 2) := by decide +kernel
theorem dX11_holdOf_18 : decode cX11_holdOf 18 = .ok (.idiv, 1) := by decide +kernel
theorem dX11_holdOf_19 : decode cX11_holdOf 19 = .ok (.isub, 1) := by decide +kernel
theorem dX11_holdOf_20 : decode cX11_holdOf 20 = .ok (.istore_n 2, 1) := by decide +kernel
theorem dX11_holdOf_21 : decode cX11_holdOf 21 = .ok (.iload_n 2, 1) := by decide +kernel
theorem dX11_holdOf_22 : decode cX11_holdOf 22 = .ok (.ifCond .ge 7, 3) := by decide +kernel
theorem dX11_holdOf_25 : decode cX11_holdOf 25 = .ok (.iconst 0, 1) := by decide +kernel
theorem dX11_holdOf_26 : decode cX11_holdOf 26 = .ok (.goto 4, 3) := by decide +kernel
theorem dX11_holdOf_29 : decode cX11_holdOf 29 = .ok (.iload_n 2, 1) := by decide +kernel
theorem dX11_holdOf_30 : decode cX11_holdOf 30 = .ok (.ireturn, 1) := by decide +kernel
theorem dX11_can_0 : decode cX11_can 0 = .ok (.aload_n 0, 1) := by decide +kernel
theorem dX11_can_1 : decode cX11_can 1 = .ok (.iload_n 1, 1) := by decide +kernel
theorem dX11_can_2 : decode cX11_can 2 = .ok (.invokevirtual 65, 3) := by decide +kernel
theorem dX11_can_5 : decode cX11_can 5 = .ok (.iload_n 2, 1) := by decide +kernel
theorem dX11_can_6 : decode cX11_can 6 = .ok (.aload_n 0, 1) := by decide +kernel
theorem dX11_can_7 : decode cX11_can 7 = .ok (.getfield 9, 3) := by decide +kernel
theorem dX11_can_10 : decode cX11_can 10 = .ok (.iconst 0, 1) := by decide +kernel
theorem dX11_can_11 : decode cX11_can 11 = .ok (.iaload, 1) := by decide +kernel
theorem dX11_can_12 : decode cX11_can 12 = .ok (.iadd, 1) := by decide +kernel
theorem dX11_can_13 : decode cX11_can 13 = .ok (.if_icmp .gt 7, 3) := by decide +kernel
theorem dX11_can_16 : decode cX11_can 16 = .ok (.iconst 1, 1) := by decide +kernel
theorem dX11_can_17 : decode cX11_can 17 = .ok (.goto 4, 3) := by decide +kernel
theorem dX11_can_20 : decode cX11_can 20 = .ok (.iconst 0, 1) := by decide +kernel
theorem dX11_can_21 : decode cX11_can 21 = .ok (.ireturn, 1) := by decide +kernel
theorem dX11_below_0 : decode cX11_below 0 = .ok (.iload_n 0, 1) := by decide +kernel
theorem dX11_below_1 : decode cX11_below 1 = .ok (.bipush 12, 2) := by decide +kernel
theorem dX11_below_3 : decode cX11_below 3 = .ok (.irem, 1) := by decide +kernel
theorem dX11_below_4 : decode cX11_below 4 = .ok (.istore_n 2, 1) := by decide +kernel
theorem dX11_below_5 : decode cX11_below 5 = .ok (.iload_n 1, 1) := by decide +kernel
theorem dX11_below_6 : decode cX11_below 6 = .ok (.ifCond .ne 10, 3) := by decide +kernel
theorem dX11_below_9 : decode cX11_below 9 = .ok (.iload_n 0, 1) := by decide +kernel
theorem dX11_below_10 : decode cX11_below 10 = .ok (.bipush 12, 2) := by decide +kernel
theorem dX11_below_12 : decode cX11_below 12 = .ok (.iadd, 1) := by decide +kernel
theorem dX11_below_13 : decode cX11_below 13 = .ok (.goto 41, 3) := by decide +kernel
theorem dX11_below_16 : decode cX11_below 16 = .ok (.iload_n 1, 1) := by decide +kernel
theorem dX11_below_17 : decode cX11_below 17 = .ok (.iconst 1, 1) := by decide +kernel
theorem dX11_below_18 : decode cX11_below 18 = .ok (.if_icmp .ne 20, 3) := by decide +kernel
theorem dX11_below_21 : decode cX11_below 21 = .ok (.iload_n 2, 1) := by decide +kernel
theorem dX11_below_22 : decode cX11_below 22 = .ok (.ifCond .le 12, 3) := by decide +kernel
theorem dX11_below_25 : decode cX11_below 25 = .ok (.iload_n 0, 1) := by decide +kernel
theorem dX11_below_26 : decode cX11_below 26 = .ok (.bipush 12, 2) := by decide +kernel
theorem dX11_below_28 : decode cX11_below 28 = .ok (.iadd, 1) := by decide +kernel
theorem dX11_below_29 : decode cX11_below 29 = .ok (.iconst 1, 1) := by decide +kernel
theorem dX11_below_30 : decode cX11_below 30 = .ok (.isub, 1) := by decide +kernel
theorem dX11_below_31 : decode cX11_below 31 = .ok (.goto 23, 3) := by decide +kernel
theorem dX11_below_34 : decode cX11_below 34 = .ok (.iconst (-1), 1) := by decide +kernel
theorem dX11_below_35 : decode cX11_below 35 = .ok (.goto 19, 3) := by decide +kernel
theorem dX11_below_38 : decode cX11_below 38 = .ok (.iload_n 2, 1) := by decide +kernel
theorem dX11_below_39 : decode cX11_below 39 = .ok (.bipush 11, 2) := by decide +kernel
theorem dX11_below_41 : decode cX11_below 41 = .ok (.if_icmp .ge 12, 3) := by decide +kernel
theorem dX11_below_44 : decode cX11_below 44 = .ok (.iload_n 0, 1) := by decide +kernel
theorem dX11_below_45 : decode cX11_below 45 = .ok (.bipush 12, 2) := by decide +kernel
theorem dX11_below_47 : decode cX11_below 47 = .ok (.iadd, 1) := by decide +kernel
theorem dX11_below_48 : decode cX11_below 48 = .ok (.iconst 1, 1) := by decide +kernel
theorem dX11_below_49 : decode cX11_below 49 = .ok (.iadd, 1) := by decide +kernel
theorem dX11_below_50 : decode cX11_below 50 = .ok (.goto 4, 3) := by decide +kernel
theorem dX11_below_53 : decode cX11_below 53 = .ok (.iconst (-1), 1) := by decide +kernel
theorem dX11_below_54 : decode cX11_below 54 = .ok (.ireturn, 1) := by decide +kernel
theorem dX11_softest_0 : decode cX11_softest 0 = .ok (.iload_n 1, 1) := by decide +kernel
theorem dX11_softest_1 : decode cX11_softest 1 = .ok (.istore_n 3, 1) := by decide +kernel
theorem dX11_softest_2 : decode cX11_softest 2 = .ok (.iconst 0, 1) := by decide +kernel
theorem dX11_softest_3 : decode cX11_softest 3 = .ok (.istore 4, 2) := by decide +kernel
theorem dX11_softest_5 : decode cX11_softest 5 = .ok (.iload 4, 2) := by decide +kernel
theorem dX11_softest_7 : decode cX11_softest 7 = .ok (.iconst 3, 1) := by decide +kernel
theorem dX11_softest_8 : decode cX11_softest 8 = .ok (.if_icmp .ge 57, 3) := by decide +kernel
theorem dX11_softest_11 : decode cX11_softest 11 = .ok (.iload_n 1, 1) := by decide +kernel
theorem dX11_softest_12 : decode cX11_softest 12 = .ok (.iload 4, 2) := by decide +kernel
theorem dX11_softest_14 : decode cX11_softest 14 = .ok (.invokestatic 68, 3) := by decide +kernel
theorem dX11_softest_17 : decode cX11_softest 17 = .ok (.istore 5, 2) := by decide +kernel
theorem dX11_softest_19 : decode cX11_softest 19 = .ok (.iload 5, 2) := by decide +kernel
theorem dX11_softest_21 : decode cX11_softest 21 = .ok (.ifCond .lt 38, 3) := by decide +kernel
theorem dX11_softest_24 : decode cX11_softest 24 = .ok (.aload_n 0, 1) := by decide +kernel
theorem dX11_softest_25 : decode cX11_softest 25 = .ok (.iload 5, 2) := by decide +kernel
theorem dX11_softest_27 : decode cX11_softest 27 = .ok (.iload_n 2, 1) := by decide +kernel
theorem dX11_softest_28 : decode cX11_softest 28 = .ok (.invokevirtual 71, 3) := by decide +kernel
theorem dX11_softest_31 : decode cX11_softest 31 = .ok (.ifCond .ne 6, 3) := by decide +kernel
theorem dX11_softest_34 : decode cX11_softest 34 = .ok (.goto 25, 3) := by decide +kernel
theorem dX11_softest_37 : decode cX11_softest 37 = .ok (.iload_n 3, 1) := by decide +kernel
theorem dX11_softest_38 : decode cX11_softest 38 = .ok (.iload_n 1, 1) := by decide +kernel
theorem dX11_softest_39 : decode cX11_softest 39 = .ok (.if_icmp .eq 17, 3) := by decide +kernel
theorem dX11_softest_42 : decode cX11_softest 42 = .ok (.aload_n 0, 1) := by decide +kernel
theorem dX11_softest_43 : decode cX11_softest 43 = .ok (.iload 5, 2) := by decide +kernel
theorem dX11_softest_45 : decode cX11_softest 45 = .ok (.invokevirtual 65, 3) := by decide +kernel
theorem dX11_softest_48 : decode cX11_softest 48 = .ok (.aload_n 0, 1) := by decide +kernel
theorem dX11_softest_49 : decode cX11_softest 49 = .ok (.iload_n 3, 1) := by decide +kernel
theorem dX11_softest_50 : decode cX11_softest 50 = .ok (.invokevirtual 65, 3) := by decide +kernel
theorem dX11_softest_53 : decode cX11_softest 53 = .ok (.if_icmp .ge 6, 3) := by decide +kernel
theorem dX11_softest_56 : decode cX11_softest 56 = .ok (.iload 5, 2) := by decide +kernel
theorem dX11_softest_58 : decode cX11_softest 58 = .ok (.istore_n 3, 1) := by decide +kernel
theorem dX11_softest_59 : decode cX11_softest 59 = .ok (.iinc 4 1, 3) := by decide +kernel
theorem dX11_softest_62 : decode cX11_softest 62 = .ok (.goto (-57), 3) := by decide +kernel
theorem dX11_softest_65 : decode cX11_softest 65 = .ok (.iload_n 3, 1) := by decide +kernel
theorem dX11_softest_66 : decode cX11_softest 66 = .ok (.ireturn, 1) := by decide +kernel
theorem dX11_wettest_0 : decode cX11_wettest 0 = .ok (.iload_n 1, 1) := by decide +kernel
theorem dX11_wettest_1 : decode cX11_wettest 1 = .ok (.istore_n 3, 1) := by decide +kernel
theorem dX11_wettest_2 : decode cX11_wettest 2 = .ok (.iconst 0, 1) := by decide +kernel
theorem dX11_wettest_3 : decode cX11_wettest 3 = .ok (.istore 4, 2) := by decide +kernel
theorem dX11_wettest_5 : decode cX11_wettest 5 = .ok (.iload 4, 2) := by decide +kernel
theorem dX11_wettest_7 : decode cX11_wettest 7 = .ok (.iconst 3, 1) := by decide +kernel
theorem dX11_wettest_8 : decode cX11_wettest 8 = .ok (.if_icmp .ge 66, 3) := by decide +kernel
theorem dX11_wettest_11 : decode cX11_wettest 11 = .ok (.iload_n 1, 1) := by decide +kernel
theorem dX11_wettest_12 : decode cX11_wettest 12 = .ok (.iload 4, 2) := by decide +kernel
theorem dX11_wettest_14 : decode cX11_wettest 14 = .ok (.invokestatic 68, 3) := by decide +kernel
theorem dX11_wettest_17 : decode cX11_wettest 17 = .ok (.istore 5, 2) := by decide +kernel
theorem dX11_wettest_19 : decode cX11_wettest 19 = .ok (.iload 5, 2) := by decide +kernel
theorem dX11_wettest_21 : decode cX11_wettest 21 = .ok (.ifCond .lt 47, 3) := by decide +kernel
theorem dX11_wettest_24 : decode cX11_wettest 24 = .ok (.aload_n 0, 1) := by decide +kernel
theorem dX11_wettest_25 : decode cX11_wettest 25 = .ok (.iload 5, 2) := by decide +kernel
theorem dX11_wettest_27 : decode cX11_wettest 27 = .ok (.iload_n 2, 1) := by decide +kernel
theorem dX11_wettest_28 : decode cX11_wettest 28 = .ok (.invokevirtual 71, 3) := by decide +kernel
theorem dX11_wettest_31 : decode cX11_wettest 31 = .ok (.ifCond .eq 37, 3) := by decide +kernel
theorem dX11_wettest_34 : decode cX11_wettest 34 = .ok (.aload_n 0, 1) := by decide +kernel
theorem dX11_wettest_35 : decode cX11_wettest 35 = .ok (.iload 5, 2) := by decide +kernel
theorem dX11_wettest_37 : decode cX11_wettest 37 = .ok (.invokevirtual 61, 3) := by decide +kernel
theorem dX11_wettest_40 : decode cX11_wettest 40 = .ok (.ifCond .ne 6, 3) := by decide +kernel
theorem dX11_wettest_43 : decode cX11_wettest 43 = .ok (.goto 25, 3) := by decide +kernel
theorem dX11_wettest_46 : decode cX11_wettest 46 = .ok (.iload_n 3, 1) := by decide +kernel
theorem dX11_wettest_47 : decode cX11_wettest 47 = .ok (.iload_n 1, 1) := by decide +kernel
theorem dX11_wettest_48 : decode cX11_wettest 48 = .ok (.if_icmp .eq 17, 3) := by decide +kernel
theorem dX11_wettest_51 : decode cX11_wettest 51 = .ok (.aload_n 0, 1) := by decide +kernel
theorem dX11_wettest_52 : decode cX11_wettest 52 = .ok (.iload 5, 2) := by decide +kernel
theorem dX11_wettest_54 : decode cX11_wettest 54 = .ok (.invokevirtual 61, 3) := by decide +kernel
theorem dX11_wettest_57 : decode cX11_wettest 57 = .ok (.aload_n 0, 1) := by decide +kernel
theorem dX11_wettest_58 : decode cX11_wettest 58 = .ok (.iload_n 3, 1) := by decide +kernel
theorem dX11_wettest_59 : decode cX11_wettest 59 = .ok (.invokevirtual 61, 3) := by decide +kernel
theorem dX11_wettest_62 : decode cX11_wettest 62 = .ok (.if_icmp .le 6, 3) := by decide +kernel
theorem dX11_wettest_65 : decode cX11_wettest 65 = .ok (.iload 5, 2) := by decide +kernel
theorem dX11_wettest_67 : decode cX11_wettest 67 = .ok (.istore_n 3, 1) := by decide +kernel
theorem dX11_wettest_68 : decode cX11_wettest 68 = .ok (.iinc 4 1, 3) := by decide +kernel
theorem dX11_wettest_71 : decode cX11_wettest 71 = .ok (.goto (-66), 3) := by decide +kernel
theorem dX11_wettest_74 : decode cX11_wettest 74 = .ok (.iload_n 3, 1) := by decide +kernel
theorem dX11_wettest_75 : decode cX11_wettest 75 = .ok (.ireturn, 1) := by decide +kernel
theorem dX11_swung_0 : decode cX11_swung 0 = .ok (.iload_n 1, 1) := by decide +kernel
theorem dX11_swung_1 : decode cX11_swung 1 = .ok (.iload_n 3, 1) := by decide +kernel
theorem dX11_swung_2 : decode cX11_swung 2 = .ok (.iconst 2, 1) := by decide +kernel
theorem dX11_swung_3 : decode cX11_swung 3 = .ok (.irem, 1) := by decide +kernel
theorem dX11_swung_4 : decode cX11_swung 4 = .ok (.ifCond .ne 7, 3) := by decide +kernel
theorem dX11_swung_7 : decode cX11_swung 7 = .ok (.iconst 1, 1) := by decide +kernel
theorem dX11_swung_8 : decode cX11_swung 8 = .ok (.goto 4, 3) := by decide +kernel
theorem dX11_swung_11 : decode cX11_swung 11 = .ok (.iconst 2, 1) := by decide +kernel
theorem dX11_swung_12 : decode cX11_swung 12 = .ok (.invokestatic 68, 3) := by decide +kernel
theorem dX11_swung_15 : decode cX11_swung 15 = .ok (.istore 4, 2) := by decide +kernel
theorem dX11_swung_17 : decode cX11_swung 17 = .ok (.iload 4, 2) := by decide +kernel
theorem dX11_swung_19 : decode cX11_swung 19 = .ok (.ifCond .lt 18, 3) := by decide +kernel
theorem dX11_swung_22 : decode cX11_swung 22 = .ok (.aload_n 0, 1) := by decide +kernel
theorem dX11_swung_23 : decode cX11_swung 23 = .ok (.iload 4, 2) := by decide +kernel
theorem dX11_swung_25 : decode cX11_swung 25 = .ok (.iload_n 2, 1) := by decide +kernel
theorem dX11_swung_26 : decode cX11_swung 26 = .ok (.invokevirtual 71, 3) := by decide +kernel
theorem dX11_swung_29 : decode cX11_swung 29 = .ok (.ifCond .eq 8, 3) := by decide +kernel
theorem dX11_swung_32 : decode cX11_swung 32 = .ok (.iload 4, 2) := by decide +kernel
theorem dX11_swung_34 : decode cX11_swung 34 = .ok (.goto 9, 3) := by decide +kernel
theorem dX11_swung_37 : decode cX11_swung 37 = .ok (.aload_n 0, 1) := by decide +kernel
theorem dX11_swung_38 : decode cX11_swung 38 = .ok (.iload_n 1, 1) := by decide +kernel
theorem dX11_swung_39 : decode cX11_swung 39 = .ok (.iload_n 2, 1) := by decide +kernel
theorem dX11_swung_40 : decode cX11_swung 40 = .ok (.invokevirtual 75, 3) := by decide +kernel
theorem dX11_swung_43 : decode cX11_swung 43 = .ok (.ireturn, 1) := by decide +kernel
theorem dX11_aside_0 : decode cX11_aside 0 = .ok (.iload_n 1, 1) := by decide +kernel
theorem dX11_aside_1 : decode cX11_aside 1 = .ok (.bipush 12, 2) := by decide +kernel
theorem dX11_aside_3 : decode cX11_aside 3 = .ok (.irem, 1) := by decide +kernel
theorem dX11_aside_4 : decode cX11_aside 4 = .ok (.istore_n 3, 1) := by decide +kernel
theorem dX11_aside_5 : decode cX11_aside 5 = .ok (.iload_n 3, 1) := by decide +kernel
theorem dX11_aside_6 : decode cX11_aside 6 = .ok (.iconst 2, 1) := by decide +kernel
theorem dX11_aside_7 : decode cX11_aside 7 = .ok (.irem, 1) := by decide +kernel
theorem dX11_aside_8 : decode cX11_aside 8 = .ok (.ifCond .ne 17, 3) := by decide +kernel
theorem dX11_aside_11 : decode cX11_aside 11 = .ok (.iload_n 3, 1) := by decide +kernel
theorem dX11_aside_12 : decode cX11_aside 12 = .ok (.ifCond .le 9, 3) := by decide +kernel
theorem dX11_aside_15 : decode cX11_aside 15 = .ok (.iload_n 1, 1) := by decide +kernel
theorem dX11_aside_16 : decode cX11_aside 16 = .ok (.iconst 1, 1) := by decide +kernel
theorem dX11_aside_17 : decode cX11_aside 17 = .ok (.isub, 1) := by decide +kernel
theorem dX11_aside_18 : decode cX11_aside 18 = .ok (.goto 20, 3) := by decide +kernel
theorem dX11_aside_21 : decode cX11_aside 21 = .ok (.iconst (-1), 1) := by decide +kernel
theorem dX11_aside_22 : decode cX11_aside 22 = .ok (.goto 16, 3) := by decide +kernel
theorem dX11_aside_25 : decode cX11_aside 25 = .ok (.iload_n 3, 1) := by decide +kernel
theorem dX11_aside_26 : decode cX11_aside 26 = .ok (.bipush 11, 2) := by decide +kernel
theorem dX11_aside_28 : decode cX11_aside 28 = .ok (.if_icmp .ge 9, 3) := by decide +kernel
theorem dX11_aside_31 : decode cX11_aside 31 = .ok (.iload_n 1, 1) := by decide +kernel
theorem dX11_aside_32 : decode cX11_aside 32 = .ok (.iconst 1, 1) := by decide +kernel
theorem dX11_aside_33 : decode cX11_aside 33 = .ok (.iadd, 1) := by decide +kernel
theorem dX11_aside_34 : decode cX11_aside 34 = .ok (.goto 4, 3) := by decide +kernel
theorem dX11_aside_37 : decode cX11_aside 37 = .ok (.iconst (-1), 1) := by decide +kernel
theorem dX11_aside_38 : decode cX11_aside 38 = .ok (.istore 4, 2) := by decide +kernel
theorem dX11_aside_40 : decode cX11_aside 40 = .ok (.iload 4, 2) := by decide +kernel
theorem dX11_aside_42 : decode cX11_aside 42 = .ok (.ifCond .lt 18, 3) := by decide +kernel
theorem dX11_aside_45 : decode cX11_aside 45 = .ok (.aload_n 0, 1) := by decide +kernel
theorem dX11_aside_46 : decode cX11_aside 46 = .ok (.iload 4, 2) := by decide +kernel
theorem dX11_aside_48 : decode cX11_aside 48 = .ok (.iload_n 2, 1) := by decide +kernel
theorem dX11_aside_49 : decode cX11_aside 49 = .ok (.invokevirtual 71, 3) := by decide +kernel
theorem dX11_aside_52 : decode cX11_aside 52 = .ok (.ifCond .eq 8, 3) := by decide +kernel
theorem dX11_aside_55 : decode cX11_aside 55 = .ok (.iload 4, 2) := by decide +kernel
theorem dX11_aside_57 : decode cX11_aside 57 = .ok (.goto 4, 3) := by decide +kernel
theorem dX11_aside_60 : decode cX11_aside 60 = .ok (.iload_n 1, 1) := by decide +kernel
theorem dX11_aside_61 : decode cX11_aside 61 = .ok (.ireturn, 1) := by decide +kernel
theorem dX11_goesTo_0 : decode cX11_goesTo 0 = .ok (.iload_n 2, 1) := by decide +kernel
theorem dX11_goesTo_1 : decode cX11_goesTo 1 = .ok (.sipush 180, 3) := by decide +kernel
theorem dX11_goesTo_4 : decode cX11_goesTo 4 = .ok (.if_icmp .lt 5, 3) := by decide +kernel
theorem dX11_goesTo_7 : decode cX11_goesTo 7 = .ok (.iconst (-1), 1) := by decide +kernel
theorem dX11_goesTo_8 : decode cX11_goesTo 8 = .ok (.ireturn, 1) := by decide +kernel
theorem dX11_goesTo_9 : decode cX11_goesTo 9 = .ok (.aload_n 0, 1) := by decide +kernel
theorem dX11_goesTo_10 : decode cX11_goesTo 10 = .ok (.iload_n 2, 1) := by decide +kernel
theorem dX11_goesTo_11 : decode cX11_goesTo 11 = .ok (.bipush 12, 2) := by decide +kernel
theorem dX11_goesTo_13 : decode cX11_goesTo 13 = .ok (.iadd, 1) := by decide +kernel
theorem dX11_goesTo_14 : decode cX11_goesTo 14 = .ok (.iload_n 3, 1) := by decide +kernel
theorem dX11_goesTo_15 : decode cX11_goesTo 15 = .ok (.invokevirtual 71, 3) := by decide +kernel
theorem dX11_goesTo_18 : decode cX11_goesTo 18 = .ok (.istore 5, 2) := by decide +kernel
theorem dX11_goesTo_20 : decode cX11_goesTo 20 = .ok (.iload_n 1, 1) := by decide +kernel
theorem dX11_goesTo_21 : decode cX11_goesTo 21 = .ok (.bipush 7, 2) := by decide +kernel
theorem dX11_goesTo_23 : decode cX11_goesTo 23 = .ok (.if_icmp .ne 12, 3) := by decide +kernel
theorem dX11_goesTo_26 : decode cX11_goesTo 26 = .ok (.aload_n 0, 1) := by decide +kernel
theorem dX11_goesTo_27 : decode cX11_goesTo 27 = .ok (.iload_n 2, 1) := by decide +kernel
theorem dX11_goesTo_28 : decode cX11_goesTo 28 = .ok (.iload_n 3, 1) := by decide +kernel
theorem dX11_goesTo_29 : decode cX11_goesTo 29 = .ok (.invokevirtual 78, 3) := by decide +kernel
theorem dX11_goesTo_32 : decode cX11_goesTo 32 = .ok (.goto 4, 3) := by decide +kernel
theorem dX11_goesTo_35 : decode cX11_goesTo 35 = .ok (.iload_n 2, 1) := by decide +kernel
theorem dX11_goesTo_36 : decode cX11_goesTo 36 = .ok (.istore 6, 2) := by decide +kernel
theorem dX11_goesTo_38 : decode cX11_goesTo 38 = .ok (.iload_n 1, 1) := by decide +kernel
theorem dX11_goesTo_39 : decode cX11_goesTo 39 = .ok (.tableswitch 120 2 6 #[33, 47, 85, 94, 66], 33) := by decide +kernel
theorem dX11_goesTo_72 : decode cX11_goesTo 72 = .ok (.iload 5, 2) := by decide +kernel
theorem dX11_goesTo_74 : decode cX11_goesTo 74 = .ok (.ifCond .eq 10, 3) := by decide +kernel
theorem dX11_goesTo_77 : decode cX11_goesTo 77 = .ok (.iload_n 2, 1) := by decide +kernel
theorem dX11_goesTo_78 : decode cX11_goesTo 78 = .ok (.bipush 12, 2) := by decide +kernel
theorem dX11_goesTo_80 : decode cX11_goesTo 80 = .ok (.iadd, 1) := by decide +kernel
theorem dX11_goesTo_81 : decode cX11_goesTo 81 = .ok (.goto 4, 3) := by decide +kernel
theorem dX11_goesTo_84 : decode cX11_goesTo 84 = .ok (.iload_n 2, 1) := by decide +kernel
theorem dX11_goesTo_85 : decode cX11_goesTo 85 = .ok (.ireturn, 1) := by decide +kernel
theorem dX11_goesTo_86 : decode cX11_goesTo 86 = .ok (.iload 5, 2) := by decide +kernel
theorem dX11_goesTo_88 : decode cX11_goesTo 88 = .ok (.ifCond .eq 10, 3) := by decide +kernel
theorem dX11_goesTo_91 : decode cX11_goesTo 91 = .ok (.iload_n 2, 1) := by decide +kernel
theorem dX11_goesTo_92 : decode cX11_goesTo 92 = .ok (.bipush 12, 2) := by decide +kernel
theorem dX11_goesTo_94 : decode cX11_goesTo 94 = .ok (.iadd, 1) := by decide +kernel
theorem dX11_goesTo_95 : decode cX11_goesTo 95 = .ok (.goto 9, 3) := by decide +kernel
theorem dX11_goesTo_98 : decode cX11_goesTo 98 = .ok (.aload_n 0, 1) := by decide +kernel
theorem dX11_goesTo_99 : decode cX11_goesTo 99 = .ok (.iload_n 2, 1) := by decide +kernel
theorem dX11_goesTo_100 : decode cX11_goesTo 100 = .ok (.iload_n 3, 1) := by decide +kernel
theorem dX11_goesTo_101 : decode cX11_goesTo 101 = .ok (.invokevirtual 81, 3) := by decide +kernel
theorem dX11_goesTo_104 : decode cX11_goesTo 104 = .ok (.ireturn, 1) := by decide +kernel
theorem dX11_goesTo_105 : decode cX11_goesTo 105 = .ok (.iload 5, 2) := by decide +kernel
theorem dX11_goesTo_107 : decode cX11_goesTo 107 = .ok (.ifCond .eq 10, 3) := by decide +kernel
theorem dX11_goesTo_110 : decode cX11_goesTo 110 = .ok (.iload_n 2, 1) := by decide +kernel
theorem dX11_goesTo_111 : decode cX11_goesTo 111 = .ok (.bipush 12, 2) := by decide +kernel
theorem dX11_goesTo_113 : decode cX11_goesTo 113 = .ok (.iadd, 1) := by decide +kernel
theorem dX11_goesTo_114 : decode cX11_goesTo 114 = .ok (.goto 9, 3) := by decide +kernel
theorem dX11_goesTo_117 : decode cX11_goesTo 117 = .ok (.aload_n 0, 1) := by decide +kernel
theorem dX11_goesTo_118 : decode cX11_goesTo 118 = .ok (.iload_n 2, 1) := by decide +kernel
theorem dX11_goesTo_119 : decode cX11_goesTo 119 = .ok (.iload_n 3, 1) := by decide +kernel
theorem dX11_goesTo_120 : decode cX11_goesTo 120 = .ok (.invokevirtual 75, 3) := by decide +kernel
theorem dX11_goesTo_123 : decode cX11_goesTo 123 = .ok (.ireturn, 1) := by decide +kernel
theorem dX11_goesTo_124 : decode cX11_goesTo 124 = .ok (.aload_n 0, 1) := by decide +kernel
theorem dX11_goesTo_125 : decode cX11_goesTo 125 = .ok (.iload_n 2, 1) := by decide +kernel
theorem dX11_goesTo_126 : decode cX11_goesTo 126 = .ok (.iload_n 3, 1) := by decide +kernel
theorem dX11_goesTo_127 : decode cX11_goesTo 127 = .ok (.iload 4, 2) := by decide +kernel
theorem dX11_goesTo_129 : decode cX11_goesTo 129 = .ok (.invokevirtual 84, 3) := by decide +kernel
theorem dX11_goesTo_132 : decode cX11_goesTo 132 = .ok (.ireturn, 1) := by decide +kernel
theorem dX11_goesTo_133 : decode cX11_goesTo 133 = .ok (.iload 4, 2) := by decide +kernel
theorem dX11_goesTo_135 : decode cX11_goesTo 135 = .ok (.iconst 3, 1) := by decide +kernel
theorem dX11_goesTo_136 : decode cX11_goesTo 136 = .ok (.irem, 1) := by decide +kernel
theorem dX11_goesTo_137 : decode cX11_goesTo 137 = .ok (.iconst 2, 1) := by decide +kernel
theorem dX11_goesTo_138 : decode cX11_goesTo 138 = .ok (.if_icmp .ne 12, 3) := by decide +kernel
theorem dX11_goesTo_141 : decode cX11_goesTo 141 = .ok (.aload_n 0, 1) := by decide +kernel
theorem dX11_goesTo_142 : decode cX11_goesTo 142 = .ok (.iload_n 2, 1) := by decide +kernel
theorem dX11_goesTo_143 : decode cX11_goesTo 143 = .ok (.iload_n 3, 1) := by decide +kernel
theorem dX11_goesTo_144 : decode cX11_goesTo 144 = .ok (.invokevirtual 75, 3) := by decide +kernel
theorem dX11_goesTo_147 : decode cX11_goesTo 147 = .ok (.goto 11, 3) := by decide +kernel
theorem dX11_goesTo_150 : decode cX11_goesTo 150 = .ok (.aload_n 0, 1) := by decide +kernel
theorem dX11_goesTo_151 : decode cX11_goesTo 151 = .ok (.iload_n 2, 1) := by decide +kernel
theorem dX11_goesTo_152 : decode cX11_goesTo 152 = .ok (.iload_n 3, 1) := by decide +kernel
theorem dX11_goesTo_153 : decode cX11_goesTo 153 = .ok (.iload 4, 2) := by decide +kernel
theorem dX11_goesTo_155 : decode cX11_goesTo 155 = .ok (.invokevirtual 84, 3) := by decide +kernel
theorem dX11_goesTo_158 : decode cX11_goesTo 158 = .ok (.ireturn, 1) := by decide +kernel
theorem dX11_goesTo_159 : decode cX11_goesTo 159 = .ok (.iload 6, 2) := by decide +kernel
theorem dX11_goesTo_161 : decode cX11_goesTo 161 = .ok (.iload_n 2, 1) := by decide +kernel
theorem dX11_goesTo_162 : decode cX11_goesTo 162 = .ok (.if_icmp .eq 8, 3) := by decide +kernel
theorem dX11_goesTo_165 : decode cX11_goesTo 165 = .ok (.iload 6, 2) := by decide +kernel
theorem dX11_goesTo_167 : decode cX11_goesTo 167 = .ok (.goto 9, 3) := by decide +kernel
theorem dX11_goesTo_170 : decode cX11_goesTo 170 = .ok (.aload_n 0, 1) := by decide +kernel
theorem dX11_goesTo_171 : decode cX11_goesTo 171 = .ok (.iload_n 2, 1) := by decide +kernel
theorem dX11_goesTo_172 : decode cX11_goesTo 172 = .ok (.iload_n 3, 1) := by decide +kernel
theorem dX11_goesTo_173 : decode cX11_goesTo 173 = .ok (.invokevirtual 75, 3) := by decide +kernel
theorem dX11_goesTo_176 : decode cX11_goesTo 176 = .ok (.ireturn, 1) := by decide +kernel
theorem dX11_isLosing_0 : decode cX11_isLosing 0 = .ok (.iload_n 0, 1) := by decide +kernel
theorem dX11_isLosing_1 : decode cX11_isLosing 1 = .ok (.iconst 1, 1) := by decide +kernel
theorem dX11_isLosing_2 : decode cX11_isLosing 2 = .ok (.if_icmp .eq 9, 3) := by decide +kernel
theorem dX11_isLosing_5 : decode cX11_isLosing 5 = .ok (.iload_n 0, 1) := by decide +kernel
theorem dX11_isLosing_6 : decode cX11_isLosing 6 = .ok (.bipush 7, 2) := by decide +kernel
theorem dX11_isLosing_8 : decode cX11_isLosing 8 = .ok (.if_icmp .ne 7, 3) := by decide +kernel
theorem dX11_isLosing_11 : decode cX11_isLosing 11 = .ok (.iconst 1, 1) := by decide +kernel
theorem dX11_isLosing_12 : decode cX11_isLosing 12 = .ok (.goto 4, 3) := by decide +kernel
theorem dX11_isLosing_15 : decode cX11_isLosing 15 = .ok (.iconst 0, 1) := by decide +kernel
theorem dX11_isLosing_16 : decode cX11_isLosing 16 = .ok (.ireturn, 1) := by decide +kernel
theorem dX11_cellOf_0 : decode cX11_cellOf 0 = .ok (.iload_n 1, 1) := by decide +kernel
theorem dX11_cellOf_1 : decode cX11_cellOf 1 = .ok (.invokestatic 88, 3) := by decide +kernel
theorem dX11_cellOf_4 : decode cX11_cellOf 4 = .ok (.ifCond .eq 15, 3) := by decide +kernel
theorem dX11_cellOf_7 : decode cX11_cellOf 7 = .ok (.iload_n 2, 1) := by decide +kernel
theorem dX11_cellOf_8 : decode cX11_cellOf 8 = .ok (.i2l, 1) := by decide +kernel
theorem dX11_cellOf_9 : decode cX11_cellOf 9 = .ok (.lconst 0, 1) := by decide +kernel
theorem dX11_cellOf_10 : decode cX11_cellOf 10 = .ok (.ldc2_w 92, 3) := by decide +kernel
theorem dX11_cellOf_13 : decode cX11_cellOf 13 = .ok (.invokestatic 43, 3) := by decide +kernel
theorem dX11_cellOf_16 : decode cX11_cellOf 16 = .ok (.ifCond .ne 10, 3) := by decide +kernel
theorem dX11_cellOf_19 : decode cX11_cellOf 19 = .ok (.aload_n 0, 1) := by decide +kernel
theorem dX11_cellOf_20 : decode cX11_cellOf 20 = .ok (.ldc 40, 2) := by decide +kernel
theorem dX11_cellOf_22 : decode cX11_cellOf 22 = .ok (.invokevirtual 94, 3) := by decide +kernel
theorem dX11_cellOf_25 : decode cX11_cellOf 25 = .ok (.ireturn, 1) := by decide +kernel
theorem dX11_cellOf_26 : decode cX11_cellOf 26 = .ok (.iload_n 2, 1) := by decide +kernel
theorem dX11_cellOf_27 : decode cX11_cellOf 27 = .ok (.iconst 3, 1) := by decide +kernel
theorem dX11_cellOf_28 : decode cX11_cellOf 28 = .ok (.if_icmp .ge 43, 3) := by decide +kernel
theorem dX11_cellOf_31 : decode cX11_cellOf 31 = .ok (.iload_n 2, 1) := by decide +kernel
theorem dX11_cellOf_32 : decode cX11_cellOf 32 = .ok (.ifCond .ne 15, 3) := by decide +kernel
theorem dX11_cellOf_35 : decode cX11_cellOf 35 = .ok (.aload_n 0, 1) := by decide +kernel
theorem dX11_cellOf_36 : decode cX11_cellOf 36 = .ok (.getfield 9, 3) := by decide +kernel
theorem dX11_cellOf_39 : decode cX11_cellOf 39 = .ok (.bipush 18, 2) := by decide +kernel
theorem dX11_cellOf_41 : decode cX11_cellOf 41 = .ok (.iload_n 1, 1) := by decide +kernel
theorem dX11_cellOf_42 : decode cX11_cellOf 42 = .ok (.iadd, 1) := by decide +kernel
theorem dX11_cellOf_43 : decode cX11_cellOf 43 = .ok (.iaload, 1) := by decide +kernel
theorem dX11_cellOf_44 : decode cX11_cellOf 44 = .ok (.goto 26, 3) := by decide +kernel
theorem dX11_cellOf_47 : decode cX11_cellOf 47 = .ok (.iload_n 2, 1) := by decide +kernel
theorem dX11_cellOf_48 : decode cX11_cellOf 48 = .ok (.iconst 1, 1) := by decide +kernel
theorem dX11_cellOf_49 : decode cX11_cellOf 49 = .ok (.if_icmp .ne 16, 3) := by decide +kernel
theorem dX11_cellOf_52 : decode cX11_cellOf 52 = .ok (.aload_n 0, 1) := by decide +kernel
theorem dX11_cellOf_53 : decode cX11_cellOf 53 = .ok (.getfield 9, 3) := by decide +kernel
theorem dX11_cellOf_56 : decode cX11_cellOf 56 = .ok (.sipush 210, 3) := by decide +kernel
theorem dX11_cellOf_59 : decode cX11_cellOf 59 = .ok (.iload_n 1, 1) := by decide +kernel
theorem dX11_cellOf_60 : decode cX11_cellOf 60 = .ok (.iadd, 1) := by decide +kernel
theorem dX11_cellOf_61 : decode cX11_cellOf 61 = .ok (.iaload, 1) := by decide +kernel
theorem dX11_cellOf_62 : decode cX11_cellOf 62 = .ok (.goto 8, 3) := by decide +kernel
theorem dX11_cellOf_65 : decode cX11_cellOf 65 = .ok (.aload_n 0, 1) := by decide +kernel
theorem dX11_cellOf_66 : decode cX11_cellOf 66 = .ok (.iload_n 1, 1) := by decide +kernel
theorem dX11_cellOf_67 : decode cX11_cellOf 67 = .ok (.invokevirtual 65, 3) := by decide +kernel
theorem dX11_cellOf_70 : decode cX11_cellOf 70 = .ok (.ireturn, 1) := by decide +kernel
theorem dX11_cellOf_71 : decode cX11_cellOf 71 = .ok (.iconst 0, 1) := by decide +kernel
theorem dX11_cellOf_72 : decode cX11_cellOf 72 = .ok (.istore_n 3, 1) := by decide +kernel
theorem dX11_cellOf_73 : decode cX11_cellOf 73 = .ok (.iload_n 3, 1) := by decide +kernel
theorem dX11_cellOf_74 : decode cX11_cellOf 74 = .ok (.bipush 8, 2) := by decide +kernel
theorem dX11_cellOf_76 : decode cX11_cellOf 76 = .ok (.if_icmp .ge 30, 3) := by decide +kernel
theorem dX11_cellOf_79 : decode cX11_cellOf 79 = .ok (.aload_n 0, 1) := by decide +kernel
theorem dX11_cellOf_80 : decode cX11_cellOf 80 = .ok (.iload_n 3, 1) := by decide +kernel
theorem dX11_cellOf_81 : decode cX11_cellOf 81 = .ok (.iconst 0, 1) := by decide +kernel
theorem dX11_cellOf_82 : decode cX11_cellOf 82 = .ok (.invokevirtual 53, 3) := by decide +kernel
theorem dX11_cellOf_85 : decode cX11_cellOf 85 = .ok (.ifCond .lt 15, 3) := by decide +kernel
theorem dX11_cellOf_88 : decode cX11_cellOf 88 = .ok (.aload_n 0, 1) := by decide +kernel
theorem dX11_cellOf_89 : decode cX11_cellOf 89 = .ok (.iload_n 3, 1) := by decide +kernel
theorem dX11_cellOf_90 : decode cX11_cellOf 90 = .ok (.iconst 1, 1) := by decide +kernel
theorem dX11_cellOf_91 : decode cX11_cellOf 91 = .ok (.invokevirtual 53, 3) := by decide +kernel
theorem dX11_cellOf_94 : decode cX11_cellOf 94 = .ok (.iload_n 1, 1) := by decide +kernel
theorem dX11_cellOf_95 : decode cX11_cellOf 95 = .ok (.if_icmp .ne 5, 3) := by decide +kernel
theorem dX11_cellOf_98 : decode cX11_cellOf 98 = .ok (.iload_n 3, 1) := by decide +kernel
theorem dX11_cellOf_99 : decode cX11_cellOf 99 = .ok (.ireturn, 1) := by decide +kernel
theorem dX11_cellOf_100 : decode cX11_cellOf 100 = .ok (.iinc 3 1, 3) := by decide +kernel
theorem dX11_cellOf_103 : decode cX11_cellOf 103 = .ok (.goto (-30), 3) := by decide +kernel
theorem dX11_cellOf_106 : decode cX11_cellOf 106 = .ok (.iconst (-1), 1) := by decide +kernel
theorem dX11_cellOf_107 : decode cX11_cellOf 107 = .ok (.ireturn, 1) := by decide +kernel
theorem dX11_dirt_0 : decode cX11_dirt 0 = .ok (.iload_n 1, 1) := by decide +kernel
theorem dX11_dirt_1 : decode cX11_dirt 1 = .ok (.invokestatic 88, 3) := by decide +kernel
theorem dX11_dirt_4 : decode cX11_dirt 4 = .ok (.ifCond .eq 27, 3) := by decide +kernel
theorem dX11_dirt_7 : decode cX11_dirt 7 = .ok (.iload_n 2, 1) := by decide +kernel
theorem dX11_dirt_8 : decode cX11_dirt 8 = .ok (.i2l, 1) := by decide +kernel
theorem dX11_dirt_9 : decode cX11_dirt 9 = .ok (.lconst 0, 1) := by decide +kernel
theorem dX11_dirt_10 : decode cX11_dirt 10 = .ok (.ldc2_w 97, 3) := by decide +kernel
theorem dX11_dirt_13 : decode cX11_dirt 13 = .ok (.invokestatic 43, 3) := by decide +kernel
theorem dX11_dirt_16 : decode cX11_dirt 16 = .ok (.ifCond .eq 15, 3) := by decide +kernel
theorem dX11_dirt_19 : decode cX11_dirt 19 = .ok (.aload_n 0, 1) := by decide +kernel
theorem dX11_dirt_20 : decode cX11_dirt 20 = .ok (.bipush 18, 2) := by decide +kernel
theorem dX11_dirt_22 : decode cX11_dirt 22 = .ok (.iload_n 1, 1) := by decide +kernel
theorem dX11_dirt_23 : decode cX11_dirt 23 = .ok (.iadd, 1) := by decide +kernel
theorem dX11_dirt_24 : decode cX11_dirt 24 = .ok (.iload_n 2, 1) := by decide +kernel
theorem dX11_dirt_25 : decode cX11_dirt 25 = .ok (.invokevirtual 99, 3) := by decide +kernel
theorem dX11_dirt_28 : decode cX11_dirt 28 = .ok (.goto 9, 3) := by decide +kernel
theorem dX11_dirt_31 : decode cX11_dirt 31 = .ok (.aload_n 0, 1) := by decide +kernel
theorem dX11_dirt_32 : decode cX11_dirt 32 = .ok (.ldc 40, 2) := by decide +kernel
theorem dX11_dirt_34 : decode cX11_dirt 34 = .ok (.invokevirtual 94, 3) := by decide +kernel
theorem dX11_dirt_37 : decode cX11_dirt 37 = .ok (.ireturn, 1) := by decide +kernel
theorem dX11_set_0 : decode cX11_set 0 = .ok (.iload_n 1, 1) := by decide +kernel
theorem dX11_set_1 : decode cX11_set 1 = .ok (.i2l, 1) := by decide +kernel
theorem dX11_set_2 : decode cX11_set 2 = .ok (.lconst 0, 1) := by decide +kernel
theorem dX11_set_3 : decode cX11_set 3 = .ok (.ldc2_w 102, 3) := by decide +kernel
theorem dX11_set_6 : decode cX11_set 6 = .ok (.invokestatic 43, 3) := by decide +kernel
theorem dX11_set_9 : decode cX11_set 9 = .ok (.ifCond .eq 37, 3) := by decide +kernel
theorem dX11_set_12 : decode cX11_set 12 = .ok (.iload_n 2, 1) := by decide +kernel
theorem dX11_set_13 : decode cX11_set 13 = .ok (.i2l, 1) := by decide +kernel
theorem dX11_set_14 : decode cX11_set 14 = .ok (.iload_n 1, 1) := by decide +kernel
theorem dX11_set_15 : decode cX11_set 15 = .ok (.iconst 1, 1) := by decide +kernel
theorem dX11_set_16 : decode cX11_set 16 = .ok (.if_icmp .ne 9, 3) := by decide +kernel
theorem dX11_set_19 : decode cX11_set 19 = .ok (.ldc2_w 104, 3) := by decide +kernel
theorem dX11_set_22 : decode cX11_set 22 = .ok (.goto 4, 3) := by decide +kernel
theorem dX11_set_25 : decode cX11_set 25 = .ok (.lconst 0, 1) := by decide +kernel
theorem dX11_set_26 : decode cX11_set 26 = .ok (.iload_n 1, 1) := by decide +kernel
theorem dX11_set_27 : decode cX11_set 27 = .ok (.iconst 1, 1) := by decide +kernel
theorem dX11_set_28 : decode cX11_set 28 = .ok (.if_icmp .ne 9, 3) := by decide +kernel
theorem dX11_set_31 : decode cX11_set 31 = .ok (.ldc2_w 106, 3) := by decide +kernel
theorem dX11_set_34 : decode cX11_set 34 = .ok (.goto 6, 3) := by decide +kernel
theorem dX11_set_37 : decode cX11_set 37 = .ok (.ldc2_w 97, 3) := by decide +kernel
theorem dX11_set_40 : decode cX11_set 40 = .ok (.invokestatic 43, 3) := by decide +kernel
theorem dX11_set_43 : decode cX11_set 43 = .ok (.ifCond .ne 10, 3) := by decide +kernel
theorem dX11_set_46 : decode cX11_set 46 = .ok (.aload_n 0, 1) := by decide +kernel
theorem dX11_set_47 : decode cX11_set 47 = .ok (.ldc 40, 2) := by decide +kernel
theorem dX11_set_49 : decode cX11_set 49 = .ok (.invokevirtual 94, 3) := by decide +kernel
theorem dX11_set_52 : decode cX11_set 52 = .ok (.ireturn, 1) := by decide +kernel
theorem dX11_set_53 : decode cX11_set 53 = .ok (.aload_n 0, 1) := by decide +kernel
theorem dX11_set_54 : decode cX11_set 54 = .ok (.iconst 0, 1) := by decide +kernel
theorem dX11_set_55 : decode cX11_set 55 = .ok (.iload_n 1, 1) := by decide +kernel
end
section
theorem dX11_set_56 : decode cX11_set 56 = .ok (.iadd, 1) := by decide +kernel
theorem dX11_set_57 : decode cX11_set 57 = .ok (.iload_n 2, 1) := by decide +kernel
theorem dX11_set_58 : decode cX11_set 58 = .ok (.invokevirtual 99, 3) := by decide +kernel
theorem dX11_set_61 : decode cX11_set 61 = .ok (.ireturn, 1) := by decide +kernel
theorem dX11_draw_0 : decode cX11_draw 0 = .ok (.aload_n 0, 1) := by decide +kernel
theorem dX11_draw_1 : decode cX11_draw 1 = .ok (.getfield 9, 3) := by decide +kernel
theorem dX11_draw_4 : decode cX11_draw 4 = .ok (.iconst 3, 1) := by decide +kernel
theorem dX11_draw_5 : decode cX11_draw 5 = .ok (.aload_n 0, 1) := by decide +kernel
theorem dX11_draw_6 : decode cX11_draw 6 = .ok (.getfield 9, 3) := by decide +kernel
theorem dX11_draw_9 : decode cX11_draw 9 = .ok (.iconst 3, 1) := by decide +kernel
theorem dX11_draw_10 : decode cX11_draw 10 = .ok (.iaload, 1) := by decide +kernel
theorem dX11_draw_11 : decode cX11_draw 11 = .ok (.ldc 108, 2) := by decide +kernel
theorem dX11_draw_13 : decode cX11_draw 13 = .ok (.imul, 1) := by decide +kernel
theorem dX11_draw_14 : decode cX11_draw 14 = .ok (.sipush 12345, 3) := by decide +kernel
theorem dX11_draw_17 : decode cX11_draw 17 = .ok (.iadd, 1) := by decide +kernel
theorem dX11_draw_18 : decode cX11_draw 18 = .ok (.iastore, 1) := by decide +kernel
theorem dX11_draw_19 : decode cX11_draw 19 = .ok (.aload_n 0, 1) := by decide +kernel
theorem dX11_draw_20 : decode cX11_draw 20 = .ok (.getfield 9, 3) := by decide +kernel
theorem dX11_draw_23 : decode cX11_draw 23 = .ok (.iconst 3, 1) := by decide +kernel
theorem dX11_draw_24 : decode cX11_draw 24 = .ok (.iaload, 1) := by decide +kernel
theorem dX11_draw_25 : decode cX11_draw 25 = .ok (.bipush 8, 2) := by decide +kernel
theorem dX11_draw_27 : decode cX11_draw 27 = .ok (.iushr, 1) := by decide +kernel
theorem dX11_draw_28 : decode cX11_draw 28 = .ok (.ireturn, 1) := by decide +kernel
theorem dX11_dirty_0 : decode cX11_dirty 0 = .ok (.iconst 0, 1) := by decide +kernel
theorem dX11_dirty_1 : decode cX11_dirty 1 = .ok (.istore_n 1, 1) := by decide +kernel
theorem dX11_dirty_2 : decode cX11_dirty 2 = .ok (.iconst 0, 1) := by decide +kernel
theorem dX11_dirty_3 : decode cX11_dirty 3 = .ok (.istore_n 2, 1) := by decide +kernel
theorem dX11_dirty_4 : decode cX11_dirty 4 = .ok (.iload_n 2, 1) := by decide +kernel
theorem dX11_dirty_5 : decode cX11_dirty 5 = .ok (.sipush 192, 3) := by decide +kernel
theorem dX11_dirty_8 : decode cX11_dirty 8 = .ok (.if_icmp .ge 29, 3) := by decide +kernel
theorem dX11_dirty_11 : decode cX11_dirty 11 = .ok (.iload_n 1, 1) := by decide +kernel
theorem dX11_dirty_12 : decode cX11_dirty 12 = .ok (.aload_n 0, 1) := by decide +kernel
theorem dX11_dirty_13 : decode cX11_dirty 13 = .ok (.getfield 9, 3) := by decide +kernel
theorem dX11_dirty_16 : decode cX11_dirty 16 = .ok (.bipush 18, 2) := by decide +kernel
theorem dX11_dirty_18 : decode cX11_dirty 18 = .ok (.iload_n 2, 1) := by decide +kernel
theorem dX11_dirty_19 : decode cX11_dirty 19 = .ok (.iadd, 1) := by decide +kernel
theorem dX11_dirty_20 : decode cX11_dirty 20 = .ok (.iaload, 1) := by decide +kernel
theorem dX11_dirty_21 : decode cX11_dirty 21 = .ok (.ifCond .le 7, 3) := by decide +kernel
theorem dX11_dirty_24 : decode cX11_dirty 24 = .ok (.iconst 1, 1) := by decide +kernel
theorem dX11_dirty_25 : decode cX11_dirty 25 = .ok (.goto 4, 3) := by decide +kernel
theorem dX11_dirty_28 : decode cX11_dirty 28 = .ok (.iconst 0, 1) := by decide +kernel
theorem dX11_dirty_29 : decode cX11_dirty 29 = .ok (.iadd, 1) := by decide +kernel
theorem dX11_dirty_30 : decode cX11_dirty 30 = .ok (.istore_n 1, 1) := by decide +kernel
theorem dX11_dirty_31 : decode cX11_dirty 31 = .ok (.iinc 2 1, 3) := by decide +kernel
theorem dX11_dirty_34 : decode cX11_dirty 34 = .ok (.goto (-30), 3) := by decide +kernel
theorem dX11_dirty_37 : decode cX11_dirty 37 = .ok (.iload_n 1, 1) := by decide +kernel
theorem dX11_dirty_38 : decode cX11_dirty 38 = .ok (.ireturn, 1) := by decide +kernel
theorem dX11_scatter_0 : decode cX11_scatter 0 = .ok (.iload_n 1, 1) := by decide +kernel
theorem dX11_scatter_1 : decode cX11_scatter 1 = .ok (.i2l, 1) := by decide +kernel
theorem dX11_scatter_2 : decode cX11_scatter 2 = .ok (.lconst 1, 1) := by decide +kernel
theorem dX11_scatter_3 : decode cX11_scatter 3 = .ok (.ldc2_w 109, 3) := by decide +kernel
theorem dX11_scatter_6 : decode cX11_scatter 6 = .ok (.invokestatic 43, 3) := by decide +kernel
theorem dX11_scatter_9 : decode cX11_scatter 9 = .ok (.ifCond .ne 10, 3) := by decide +kernel
theorem dX11_scatter_12 : decode cX11_scatter 12 = .ok (.aload_n 0, 1) := by decide +kernel
theorem dX11_scatter_13 : decode cX11_scatter 13 = .ok (.ldc 40, 2) := by decide +kernel
theorem dX11_scatter_15 : decode cX11_scatter 15 = .ok (.invokevirtual 94, 3) := by decide +kernel
theorem dX11_scatter_18 : decode cX11_scatter 18 = .ok (.ireturn, 1) := by decide +kernel
theorem dX11_scatter_19 : decode cX11_scatter 19 = .ok (.iconst 0, 1) := by decide +kernel
theorem dX11_scatter_20 : decode cX11_scatter 20 = .ok (.istore_n 2, 1) := by decide +kernel
theorem dX11_scatter_21 : decode cX11_scatter 21 = .ok (.iload_n 2, 1) := by decide +kernel
theorem dX11_scatter_22 : decode cX11_scatter 22 = .ok (.iload_n 1, 1) := by decide +kernel
theorem dX11_scatter_23 : decode cX11_scatter 23 = .ok (.if_icmp .ge 34, 3) := by decide +kernel
theorem dX11_scatter_26 : decode cX11_scatter 26 = .ok (.aload_n 0, 1) := by decide +kernel
theorem dX11_scatter_27 : decode cX11_scatter 27 = .ok (.invokevirtual 111, 3) := by decide +kernel
theorem dX11_scatter_30 : decode cX11_scatter 30 = .ok (.sipush 192, 3) := by decide +kernel
theorem dX11_scatter_33 : decode cX11_scatter 33 = .ok (.irem, 1) := by decide +kernel
theorem dX11_scatter_34 : decode cX11_scatter 34 = .ok (.istore_n 3, 1) := by decide +kernel
theorem dX11_scatter_35 : decode cX11_scatter 35 = .ok (.aload_n 0, 1) := by decide +kernel
theorem dX11_scatter_36 : decode cX11_scatter 36 = .ok (.getfield 9, 3) := by decide +kernel
theorem dX11_scatter_39 : decode cX11_scatter 39 = .ok (.bipush 18, 2) := by decide +kernel
theorem dX11_scatter_41 : decode cX11_scatter 41 = .ok (.iload_n 3, 1) := by decide +kernel
theorem dX11_scatter_42 : decode cX11_scatter 42 = .ok (.iadd, 1) := by decide +kernel
theorem dX11_scatter_43 : decode cX11_scatter 43 = .ok (.aload_n 0, 1) := by decide +kernel
theorem dX11_scatter_44 : decode cX11_scatter 44 = .ok (.invokevirtual 111, 3) := by decide +kernel
theorem dX11_scatter_47 : decode cX11_scatter 47 = .ok (.bipush 10, 2) := by decide +kernel
theorem dX11_scatter_49 : decode cX11_scatter 49 = .ok (.irem, 1) := by decide +kernel
theorem dX11_scatter_50 : decode cX11_scatter 50 = .ok (.iastore, 1) := by decide +kernel
theorem dX11_scatter_51 : decode cX11_scatter 51 = .ok (.iinc 2 1, 3) := by decide +kernel
theorem dX11_scatter_54 : decode cX11_scatter 54 = .ok (.goto (-33), 3) := by decide +kernel
theorem dX11_scatter_57 : decode cX11_scatter 57 = .ok (.aload_n 0, 1) := by decide +kernel
theorem dX11_scatter_58 : decode cX11_scatter 58 = .ok (.invokevirtual 115, 3) := by decide +kernel
theorem dX11_scatter_61 : decode cX11_scatter 61 = .ok (.ireturn, 1) := by decide +kernel
theorem dX11_clean_0 : decode cX11_clean 0 = .ok (.iload_n 1, 1) := by decide +kernel
theorem dX11_clean_1 : decode cX11_clean 1 = .ok (.i2l, 1) := by decide +kernel
theorem dX11_clean_2 : decode cX11_clean 2 = .ok (.lconst 0, 1) := by decide +kernel
theorem dX11_clean_3 : decode cX11_clean 3 = .ok (.ldc2_w 118, 3) := by decide +kernel
theorem dX11_clean_6 : decode cX11_clean 6 = .ok (.invokestatic 43, 3) := by decide +kernel
theorem dX11_clean_9 : decode cX11_clean 9 = .ok (.ifCond .ne 10, 3) := by decide +kernel
theorem dX11_clean_12 : decode cX11_clean 12 = .ok (.aload_n 0, 1) := by decide +kernel
theorem dX11_clean_13 : decode cX11_clean 13 = .ok (.ldc 40, 2) := by decide +kernel
theorem dX11_clean_15 : decode cX11_clean 15 = .ok (.invokevirtual 94, 3) := by decide +kernel
theorem dX11_clean_18 : decode cX11_clean 18 = .ok (.ireturn, 1) := by decide +kernel
theorem dX11_clean_19 : decode cX11_clean 19 = .ok (.iconst 0, 1) := by decide +kernel
theorem dX11_clean_20 : decode cX11_clean 20 = .ok (.istore_n 2, 1) := by decide +kernel
theorem dX11_clean_21 : decode cX11_clean 21 = .ok (.bipush 12, 2) := by decide +kernel
theorem dX11_clean_23 : decode cX11_clean 23 = .ok (.iload_n 1, 1) := by decide +kernel
theorem dX11_clean_24 : decode cX11_clean 24 = .ok (.imul, 1) := by decide +kernel
theorem dX11_clean_25 : decode cX11_clean 25 = .ok (.istore_n 3, 1) := by decide +kernel
theorem dX11_clean_26 : decode cX11_clean 26 = .ok (.iload_n 3, 1) := by decide +kernel
theorem dX11_clean_27 : decode cX11_clean 27 = .ok (.bipush 12, 2) := by decide +kernel
theorem dX11_clean_29 : decode cX11_clean 29 = .ok (.iload_n 1, 1) := by decide +kernel
theorem dX11_clean_30 : decode cX11_clean 30 = .ok (.imul, 1) := by decide +kernel
theorem dX11_clean_31 : decode cX11_clean 31 = .ok (.bipush 12, 2) := by decide +kernel
theorem dX11_clean_33 : decode cX11_clean 33 = .ok (.iadd, 1) := by decide +kernel
theorem dX11_clean_34 : decode cX11_clean 34 = .ok (.if_icmp .ge 50, 3) := by decide +kernel
theorem dX11_clean_37 : decode cX11_clean 37 = .ok (.iload_n 2, 1) := by decide +kernel
theorem dX11_clean_38 : decode cX11_clean 38 = .ok (.aload_n 0, 1) := by decide +kernel
theorem dX11_clean_39 : decode cX11_clean 39 = .ok (.getfield 9, 3) := by decide +kernel
theorem dX11_clean_42 : decode cX11_clean 42 = .ok (.bipush 18, 2) := by decide +kernel
theorem dX11_clean_44 : decode cX11_clean 44 = .ok (.iload_n 3, 1) := by decide +kernel
theorem dX11_clean_45 : decode cX11_clean 45 = .ok (.iadd, 1) := by decide +kernel
theorem dX11_clean_46 : decode cX11_clean 46 = .ok (.iaload, 1) := by decide +kernel
theorem dX11_clean_47 : decode cX11_clean 47 = .ok (.ifCond .le 7, 3) := by decide +kernel
theorem dX11_clean_50 : decode cX11_clean 50 = .ok (.iconst 1, 1) := by decide +kernel
theorem dX11_clean_51 : decode cX11_clean 51 = .ok (.goto 4, 3) := by decide +kernel
theorem dX11_clean_54 : decode cX11_clean 54 = .ok (.iconst 0, 1) := by decide +kernel
theorem dX11_clean_55 : decode cX11_clean 55 = .ok (.iadd, 1) := by decide +kernel
theorem dX11_clean_56 : decode cX11_clean 56 = .ok (.istore_n 2, 1) := by decide +kernel
theorem dX11_clean_57 : decode cX11_clean 57 = .ok (.aload_n 0, 1) := by decide +kernel
theorem dX11_clean_58 : decode cX11_clean 58 = .ok (.getfield 9, 3) := by decide +kernel
theorem dX11_clean_61 : decode cX11_clean 61 = .ok (.bipush 18, 2) := by decide +kernel
theorem dX11_clean_63 : decode cX11_clean 63 = .ok (.iload_n 3, 1) := by decide +kernel
theorem dX11_clean_64 : decode cX11_clean 64 = .ok (.iadd, 1) := by decide +kernel
theorem dX11_clean_65 : decode cX11_clean 65 = .ok (.iconst 0, 1) := by decide +kernel
theorem dX11_clean_66 : decode cX11_clean 66 = .ok (.iastore, 1) := by decide +kernel
theorem dX11_clean_67 : decode cX11_clean 67 = .ok (.aload_n 0, 1) := by decide +kernel
theorem dX11_clean_68 : decode cX11_clean 68 = .ok (.getfield 9, 3) := by decide +kernel
theorem dX11_clean_71 : decode cX11_clean 71 = .ok (.sipush 210, 3) := by decide +kernel
theorem dX11_clean_74 : decode cX11_clean 74 = .ok (.iload_n 3, 1) := by decide +kernel
theorem dX11_clean_75 : decode cX11_clean 75 = .ok (.iadd, 1) := by decide +kernel
theorem dX11_clean_76 : decode cX11_clean 76 = .ok (.iconst 0, 1) := by decide +kernel
theorem dX11_clean_77 : decode cX11_clean 77 = .ok (.iastore, 1) := by decide +kernel
theorem dX11_clean_78 : decode cX11_clean 78 = .ok (.iinc 3 1, 3) := by decide +kernel
theorem dX11_clean_81 : decode cX11_clean 81 = .ok (.goto (-55), 3) := by decide +kernel
theorem dX11_clean_84 : decode cX11_clean 84 = .ok (.iload_n 2, 1) := by decide +kernel
theorem dX11_clean_85 : decode cX11_clean 85 = .ok (.ireturn, 1) := by decide +kernel
theorem dX11_fingers_0 : decode cX11_fingers 0 = .ok (.iconst 0, 1) := by decide +kernel
theorem dX11_fingers_1 : decode cX11_fingers 1 = .ok (.istore_n 2, 1) := by decide +kernel
theorem dX11_fingers_2 : decode cX11_fingers 2 = .ok (.iload_n 1, 1) := by decide +kernel
theorem dX11_fingers_3 : decode cX11_fingers 3 = .ok (.istore_n 3, 1) := by decide +kernel
theorem dX11_fingers_4 : decode cX11_fingers 4 = .ok (.iload_n 3, 1) := by decide +kernel
theorem dX11_fingers_5 : decode cX11_fingers 5 = .ok (.sipush 192, 3) := by decide +kernel
theorem dX11_fingers_8 : decode cX11_fingers 8 = .ok (.if_icmp .ge 33, 3) := by decide +kernel
theorem dX11_fingers_11 : decode cX11_fingers 11 = .ok (.iload_n 2, 1) := by decide +kernel
theorem dX11_fingers_12 : decode cX11_fingers 12 = .ok (.aload_n 0, 1) := by decide +kernel
theorem dX11_fingers_13 : decode cX11_fingers 13 = .ok (.sipush 210, 3) := by decide +kernel
theorem dX11_fingers_16 : decode cX11_fingers 16 = .ok (.iload_n 3, 1) := by decide +kernel
theorem dX11_fingers_17 : decode cX11_fingers 17 = .ok (.iadd, 1) := by decide +kernel
theorem dX11_fingers_18 : decode cX11_fingers 18 = .ok (.bipush 99, 2) := by decide +kernel
theorem dX11_fingers_20 : decode cX11_fingers 20 = .ok (.invokevirtual 99, 3) := by decide +kernel
theorem dX11_fingers_23 : decode cX11_fingers 23 = .ok (.bipush 99, 2) := by decide +kernel
theorem dX11_fingers_25 : decode cX11_fingers 25 = .ok (.if_icmp .ne 7, 3) := by decide +kernel
theorem dX11_fingers_28 : decode cX11_fingers 28 = .ok (.iconst 0, 1) := by decide +kernel
theorem dX11_fingers_29 : decode cX11_fingers 29 = .ok (.goto 4, 3) := by decide +kernel
theorem dX11_fingers_32 : decode cX11_fingers 32 = .ok (.iconst 1, 1) := by decide +kernel
theorem dX11_fingers_33 : decode cX11_fingers 33 = .ok (.iadd, 1) := by decide +kernel
theorem dX11_fingers_34 : decode cX11_fingers 34 = .ok (.istore_n 2, 1) := by decide +kernel
theorem dX11_fingers_35 : decode cX11_fingers 35 = .ok (.iinc 3 12, 3) := by decide +kernel
theorem dX11_fingers_38 : decode cX11_fingers 38 = .ok (.goto (-34), 3) := by decide +kernel
theorem dX11_fingers_41 : decode cX11_fingers 41 = .ok (.iload_n 2, 1) := by decide +kernel
theorem dX11_fingers_42 : decode cX11_fingers 42 = .ok (.ireturn, 1) := by decide +kernel
theorem dX11_finger_0 : decode cX11_finger 0 = .ok (.iload_n 1, 1) := by decide +kernel
theorem dX11_finger_1 : decode cX11_finger 1 = .ok (.invokestatic 120, 3) := by decide +kernel
theorem dX11_finger_4 : decode cX11_finger 4 = .ok (.ifCond .eq 11, 3) := by decide +kernel
theorem dX11_finger_7 : decode cX11_finger 7 = .ok (.aload_n 0, 1) := by decide +kernel
theorem dX11_finger_8 : decode cX11_finger 8 = .ok (.iload_n 1, 1) := by decide +kernel
theorem dX11_finger_9 : decode cX11_finger 9 = .ok (.invokevirtual 123, 3) := by decide +kernel
theorem dX11_finger_12 : decode cX11_finger 12 = .ok (.goto 9, 3) := by decide +kernel
theorem dX11_finger_15 : decode cX11_finger 15 = .ok (.aload_n 0, 1) := by decide +kernel
theorem dX11_finger_16 : decode cX11_finger 16 = .ok (.ldc 40, 2) := by decide +kernel
theorem dX11_finger_18 : decode cX11_finger 18 = .ok (.invokevirtual 94, 3) := by decide +kernel
theorem dX11_finger_21 : decode cX11_finger 21 = .ok (.ireturn, 1) := by decide +kernel
theorem dX11_fades_0 : decode cX11_fades 0 = .ok (.iload_n 1, 1) := by decide +kernel
theorem dX11_fades_1 : decode cX11_fades 1 = .ok (.invokestatic 88, 3) := by decide +kernel
theorem dX11_fades_4 : decode cX11_fades 4 = .ok (.ifCond .ne 10, 3) := by decide +kernel
theorem dX11_fades_7 : decode cX11_fades 7 = .ok (.aload_n 0, 1) := by decide +kernel
theorem dX11_fades_8 : decode cX11_fades 8 = .ok (.ldc 40, 2) := by decide +kernel
theorem dX11_fades_10 : decode cX11_fades 10 = .ok (.invokevirtual 94, 3) := by decide +kernel
theorem dX11_fades_13 : decode cX11_fades 13 = .ok (.ireturn, 1) := by decide +kernel
theorem dX11_fades_14 : decode cX11_fades 14 = .ok (.aload_n 0, 1) := by decide +kernel
theorem dX11_fades_15 : decode cX11_fades 15 = .ok (.getfield 9, 3) := by decide +kernel
theorem dX11_fades_18 : decode cX11_fades 18 = .ok (.sipush 210, 3) := by decide +kernel
theorem dX11_fades_21 : decode cX11_fades 21 = .ok (.iload_n 1, 1) := by decide +kernel
theorem dX11_fades_22 : decode cX11_fades 22 = .ok (.iadd, 1) := by decide +kernel
theorem dX11_fades_23 : decode cX11_fades 23 = .ok (.iaload, 1) := by decide +kernel
theorem dX11_fades_24 : decode cX11_fades 24 = .ok (.istore_n 2, 1) := by decide +kernel
theorem dX11_fades_25 : decode cX11_fades 25 = .ok (.iload_n 2, 1) := by decide +kernel
theorem dX11_fades_26 : decode cX11_fades 26 = .ok (.ifCond .ne 5, 3) := by decide +kernel
theorem dX11_fades_29 : decode cX11_fades 29 = .ok (.iconst 0, 1) := by decide +kernel
theorem dX11_fades_30 : decode cX11_fades 30 = .ok (.ireturn, 1) := by decide +kernel
theorem dX11_fades_31 : decode cX11_fades 31 = .ok (.aload_n 0, 1) := by decide +kernel
theorem dX11_fades_32 : decode cX11_fades 32 = .ok (.getfield 9, 3) := by decide +kernel
theorem dX11_fades_35 : decode cX11_fades 35 = .ok (.iconst 2, 1) := by decide +kernel
theorem dX11_fades_36 : decode cX11_fades 36 = .ok (.iaload, 1) := by decide +kernel
theorem dX11_fades_37 : decode cX11_fades 37 = .ok (.ifCond .ne 12, 3) := by decide +kernel
theorem dX11_fades_40 : decode cX11_fades 40 = .ok (.aload_n 0, 1) := by decide +kernel
theorem dX11_fades_41 : decode cX11_fades 41 = .ok (.ldc 126, 2) := by decide +kernel
theorem dX11_fades_43 : decode cX11_fades 43 = .ok (.invokevirtual 94, 3) := by decide +kernel
theorem dX11_fades_46 : decode cX11_fades 46 = .ok (.goto 20, 3) := by decide +kernel
theorem dX11_fades_49 : decode cX11_fades 49 = .ok (.iload_n 2, 1) := by decide +kernel
theorem dX11_fades_50 : decode cX11_fades 50 = .ok (.aload_n 0, 1) := by decide +kernel
theorem dX11_fades_51 : decode cX11_fades 51 = .ok (.getfield 9, 3) := by decide +kernel
theorem dX11_fades_54 : decode cX11_fades 54 = .ok (.iconst 2, 1) := by decide +kernel
theorem dX11_fades_55 : decode cX11_fades 55 = .ok (.iaload, 1) := by decide +kernel
theorem dX11_fades_56 : decode cX11_fades 56 = .ok (.iadd, 1) := by decide +kernel
theorem dX11_fades_57 : decode cX11_fades 57 = .ok (.iconst 1, 1) := by decide +kernel
theorem dX11_fades_58 : decode cX11_fades 58 = .ok (.isub, 1) := by decide +kernel
theorem dX11_fades_59 : decode cX11_fades 59 = .ok (.aload_n 0, 1) := by decide +kernel
theorem dX11_fades_60 : decode cX11_fades 60 = .ok (.getfield 9, 3) := by decide +kernel
theorem dX11_fades_63 : decode cX11_fades 63 = .ok (.iconst 2, 1) := by decide +kernel
theorem dX11_fades_64 : decode cX11_fades 64 = .ok (.iaload, 1) := by decide +kernel
theorem dX11_fades_65 : decode cX11_fades 65 = .ok (.idiv, 1) := by decide +kernel
theorem dX11_fades_66 : decode cX11_fades 66 = .ok (.ireturn, 1) := by decide +kernel
theorem dX11_comes_0 : decode cX11_comes 0 = .ok (.iconst 0, 1) := by decide +kernel
theorem dX11_comes_1 : decode cX11_comes 1 = .ok (.istore 4, 2) := by decide +kernel
theorem dX11_comes_3 : decode cX11_comes 3 = .ok (.iload 4, 2) := by decide +kernel
theorem dX11_comes_5 : decode cX11_comes 5 = .ok (.bipush 8, 2) := by decide +kernel
theorem dX11_comes_7 : decode cX11_comes 7 = .ok (.if_icmp .ge 99, 3) := by decide +kernel
theorem dX11_comes_10 : decode cX11_comes 10 = .ok (.aload_n 0, 1) := by decide +kernel
theorem dX11_comes_11 : decode cX11_comes 11 = .ok (.iload 4, 2) := by decide +kernel
theorem dX11_comes_13 : decode cX11_comes 13 = .ok (.iconst 0, 1) := by decide +kernel
theorem dX11_comes_14 : decode cX11_comes 14 = .ok (.invokevirtual 53, 3) := by decide +kernel
theorem dX11_comes_17 : decode cX11_comes 17 = .ok (.ifCond .lt 6, 3) := by decide +kernel
theorem dX11_comes_20 : decode cX11_comes 20 = .ok (.goto 80, 3) := by decide +kernel
theorem dX11_comes_23 : decode cX11_comes 23 = .ok (.aload_n 0, 1) := by decide +kernel
theorem dX11_comes_24 : decode cX11_comes 24 = .ok (.getfield 9, 3) := by decide +kernel
theorem dX11_comes_27 : decode cX11_comes 27 = .ok (.sipush 402, 3) := by decide +kernel
theorem dX11_comes_30 : decode cX11_comes 30 = .ok (.iconst 4, 1) := by decide +kernel
theorem dX11_comes_31 : decode cX11_comes 31 = .ok (.iload 4, 2) := by decide +kernel
theorem dX11_comes_33 : decode cX11_comes 33 = .ok (.imul, 1) := by decide +kernel
theorem dX11_comes_34 : decode cX11_comes 34 = .ok (.iadd, 1) := by decide +kernel
theorem dX11_comes_35 : decode cX11_comes 35 = .ok (.iload_n 1, 1) := by decide +kernel
theorem dX11_comes_36 : decode cX11_comes 36 = .ok (.iastore, 1) := by decide +kernel
theorem dX11_comes_37 : decode cX11_comes 37 = .ok (.aload_n 0, 1) := by decide +kernel
theorem dX11_comes_38 : decode cX11_comes 38 = .ok (.getfield 9, 3) := by decide +kernel
theorem dX11_comes_41 : decode cX11_comes 41 = .ok (.sipush 402, 3) := by decide +kernel
theorem dX11_comes_44 : decode cX11_comes 44 = .ok (.iconst 4, 1) := by decide +kernel
theorem dX11_comes_45 : decode cX11_comes 45 = .ok (.iload 4, 2) := by decide +kernel
theorem dX11_comes_47 : decode cX11_comes 47 = .ok (.imul, 1) := by decide +kernel
theorem dX11_comes_48 : decode cX11_comes 48 = .ok (.iadd, 1) := by decide +kernel
theorem dX11_comes_49 : decode cX11_comes 49 = .ok (.iconst 1, 1) := by decide +kernel
theorem dX11_comes_50 : decode cX11_comes 50 = .ok (.iadd, 1) := by decide +kernel
theorem dX11_comes_51 : decode cX11_comes 51 = .ok (.iload_n 2, 1) := by decide +kernel
theorem dX11_comes_52 : decode cX11_comes 52 = .ok (.iastore, 1) := by decide +kernel
theorem dX11_comes_53 : decode cX11_comes 53 = .ok (.aload_n 0, 1) := by decide +kernel
theorem dX11_comes_54 : decode cX11_comes 54 = .ok (.getfield 9, 3) := by decide +kernel
theorem dX11_comes_57 : decode cX11_comes 57 = .ok (.sipush 402, 3) := by decide +kernel
theorem dX11_comes_60 : decode cX11_comes 60 = .ok (.iconst 4, 1) := by decide +kernel
theorem dX11_comes_61 : decode cX11_comes 61 = .ok (.iload 4, 2) := by decide +kernel
theorem dX11_comes_63 : decode cX11_comes 63 = .ok (.imul, 1) := by decide +kernel
theorem dX11_comes_64 : decode cX11_comes 64 = .ok (.iadd, 1) := by decide +kernel
theorem dX11_comes_65 : decode cX11_comes 65 = .ok (.iconst 2, 1) := by decide +kernel
theorem dX11_comes_66 : decode cX11_comes 66 = .ok (.iadd, 1) := by decide +kernel
theorem dX11_comes_67 : decode cX11_comes 67 = .ok (.iload_n 3, 1) := by decide +kernel
theorem dX11_comes_68 : decode cX11_comes 68 = .ok (.iastore, 1) := by decide +kernel
theorem dX11_comes_69 : decode cX11_comes 69 = .ok (.aload_n 0, 1) := by decide +kernel
theorem dX11_comes_70 : decode cX11_comes 70 = .ok (.getfield 9, 3) := by decide +kernel
theorem dX11_comes_73 : decode cX11_comes 73 = .ok (.sipush 402, 3) := by decide +kernel
theorem dX11_comes_76 : decode cX11_comes 76 = .ok (.iconst 4, 1) := by decide +kernel
theorem dX11_comes_77 : decode cX11_comes 77 = .ok (.iload 4, 2) := by decide +kernel
theorem dX11_comes_79 : decode cX11_comes 79 = .ok (.imul, 1) := by decide +kernel
theorem dX11_comes_80 : decode cX11_comes 80 = .ok (.iadd, 1) := by decide +kernel
theorem dX11_comes_81 : decode cX11_comes 81 = .ok (.iconst 3, 1) := by decide +kernel
theorem dX11_comes_82 : decode cX11_comes 82 = .ok (.iadd, 1) := by decide +kernel
theorem dX11_comes_83 : decode cX11_comes 83 = .ok (.iconst 0, 1) := by decide +kernel
theorem dX11_comes_84 : decode cX11_comes 84 = .ok (.iastore, 1) := by decide +kernel
theorem dX11_comes_85 : decode cX11_comes 85 = .ok (.aload_n 0, 1) := by decide +kernel
theorem dX11_comes_86 : decode cX11_comes 86 = .ok (.getfield 9, 3) := by decide +kernel
theorem dX11_comes_89 : decode cX11_comes 89 = .ok (.sipush 210, 3) := by decide +kernel
theorem dX11_comes_92 : decode cX11_comes 92 = .ok (.iload_n 2, 1) := by decide +kernel
theorem dX11_comes_93 : decode cX11_comes 93 = .ok (.iadd, 1) := by decide +kernel
theorem dX11_comes_94 : decode cX11_comes 94 = .ok (.bipush 99, 2) := by decide +kernel
theorem dX11_comes_96 : decode cX11_comes 96 = .ok (.iastore, 1) := by decide +kernel
theorem dX11_comes_97 : decode cX11_comes 97 = .ok (.iload 4, 2) := by decide +kernel
theorem dX11_comes_99 : decode cX11_comes 99 = .ok (.ireturn, 1) := by decide +kernel
theorem dX11_comes_100 : decode cX11_comes 100 = .ok (.iinc 4 1, 3) := by decide +kernel
theorem dX11_comes_103 : decode cX11_comes 103 = .ok (.goto (-100), 3) := by decide +kernel
theorem dX11_comes_106 : decode cX11_comes 106 = .ok (.iconst (-1), 1) := by decide +kernel
theorem dX11_comes_107 : decode cX11_comes 107 = .ok (.ireturn, 1) := by decide +kernel
theorem dX11_drop_0 : decode cX11_drop 0 = .ok (.iload_n 1, 1) := by decide +kernel
theorem dX11_drop_1 : decode cX11_drop 1 = .ok (.invokestatic 127, 3) := by decide +kernel
theorem dX11_drop_4 : decode cX11_drop 4 = .ok (.ifCond .eq 17, 3) := by decide +kernel
theorem dX11_drop_7 : decode cX11_drop 7 = .ok (.iload_n 2, 1) := by decide +kernel
theorem dX11_drop_8 : decode cX11_drop 8 = .ok (.invokestatic 120, 3) := by decide +kernel
theorem dX11_drop_11 : decode cX11_drop 11 = .ok (.ifCond .eq 10, 3) := by decide +kernel
theorem dX11_drop_14 : decode cX11_drop 14 = .ok (.iload_n 3, 1) := by decide +kernel
theorem dX11_drop_15 : decode cX11_drop 15 = .ok (.invokestatic 130, 3) := by decide +kernel
theorem dX11_drop_18 : decode cX11_drop 18 = .ok (.ifCond .ne 10, 3) := by decide +kernel
theorem dX11_drop_21 : decode cX11_drop 21 = .ok (.aload_n 0, 1) := by decide +kernel
theorem dX11_drop_22 : decode cX11_drop 22 = .ok (.ldc 40, 2) := by decide +kernel
theorem dX11_drop_24 : decode cX11_drop 24 = .ok (.invokevirtual 94, 3) := by decide +kernel
theorem dX11_drop_27 : decode cX11_drop 27 = .ok (.ireturn, 1) := by decide +kernel
theorem dX11_drop_28 : decode cX11_drop 28 = .ok (.aload_n 0, 1) := by decide +kernel
theorem dX11_drop_29 : decode cX11_drop 29 = .ok (.iload_n 1, 1) := by decide +kernel
theorem dX11_drop_30 : decode cX11_drop 30 = .ok (.iload_n 2, 1) := by decide +kernel
theorem dX11_drop_31 : decode cX11_drop 31 = .ok (.iload_n 3, 1) := by decide +kernel
theorem dX11_drop_32 : decode cX11_drop 32 = .ok (.invokevirtual 133, 3) := by decide +kernel
theorem dX11_drop_35 : decode cX11_drop 35 = .ok (.istore 4, 2) := by decide +kernel
theorem dX11_drop_37 : decode cX11_drop 37 = .ok (.iload 4, 2) := by decide +kernel
theorem dX11_drop_39 : decode cX11_drop 39 = .ok (.ifCond .ge 12, 3) := by decide +kernel
theorem dX11_drop_42 : decode cX11_drop 42 = .ok (.aload_n 0, 1) := by decide +kernel
theorem dX11_drop_43 : decode cX11_drop 43 = .ok (.ldc 136, 2) := by decide +kernel
theorem dX11_drop_45 : decode cX11_drop 45 = .ok (.invokevirtual 94, 3) := by decide +kernel
theorem dX11_drop_48 : decode cX11_drop 48 = .ok (.goto 5, 3) := by decide +kernel
theorem dX11_drop_51 : decode cX11_drop 51 = .ok (.iload 4, 2) := by decide +kernel
theorem dX11_drop_53 : decode cX11_drop 53 = .ok (.ireturn, 1) := by decide +kernel
theorem dX11_dropOf_0 : decode cX11_dropOf 0 = .ok (.iload_n 1, 1) := by decide +kernel
theorem dX11_dropOf_1 : decode cX11_dropOf 1 = .ok (.i2l, 1) := by decide +kernel
theorem dX11_dropOf_2 : decode cX11_dropOf 2 = .ok (.lconst 0, 1) := by decide +kernel
theorem dX11_dropOf_3 : decode cX11_dropOf 3 = .ok (.ldc2_w 51, 3) := by decide +kernel
theorem dX11_dropOf_6 : decode cX11_dropOf 6 = .ok (.invokestatic 43, 3) := by decide +kernel
theorem dX11_dropOf_9 : decode cX11_dropOf 9 = .ok (.ifCond .eq 15, 3) := by decide +kernel
theorem dX11_dropOf_12 : decode cX11_dropOf 12 = .ok (.iload_n 2, 1) := by decide +kernel
theorem dX11_dropOf_13 : decode cX11_dropOf 13 = .ok (.i2l, 1) := by decide +kernel
theorem dX11_dropOf_14 : decode cX11_dropOf 14 = .ok (.lconst 0, 1) := by decide +kernel
theorem dX11_dropOf_15 : decode cX11_dropOf 15 = .ok (.ldc2_w 92, 3) := by decide +kernel
theorem dX11_dropOf_18 : decode cX11_dropOf 18 = .ok (.invokestatic 43, 3) := by decide +kernel
theorem dX11_dropOf_21 : decode cX11_dropOf 21 = .ok (.ifCond .ne 10, 3) := by decide +kernel
theorem dX11_dropOf_24 : decode cX11_dropOf 24 = .ok (.aload_n 0, 1) := by decide +kernel
theorem dX11_dropOf_25 : decode cX11_dropOf 25 = .ok (.ldc 40, 2) := by decide +kernel
theorem dX11_dropOf_27 : decode cX11_dropOf 27 = .ok (.invokevirtual 94, 3) := by decide +kernel
theorem dX11_dropOf_30 : decode cX11_dropOf 30 = .ok (.ireturn, 1) := by decide +kernel
theorem dX11_dropOf_31 : decode cX11_dropOf 31 = .ok (.aload_n 0, 1) := by decide +kernel
theorem dX11_dropOf_32 : decode cX11_dropOf 32 = .ok (.iload_n 1, 1) := by decide +kernel
theorem dX11_dropOf_33 : decode cX11_dropOf 33 = .ok (.invokevirtual 137, 3) := by decide +kernel
theorem dX11_dropOf_36 : decode cX11_dropOf 36 = .ok (.ifCond .eq 12, 3) := by decide +kernel
theorem dX11_dropOf_39 : decode cX11_dropOf 39 = .ok (.aload_n 0, 1) := by decide +kernel
theorem dX11_dropOf_40 : decode cX11_dropOf 40 = .ok (.iload_n 1, 1) := by decide +kernel
theorem dX11_dropOf_41 : decode cX11_dropOf 41 = .ok (.iload_n 2, 1) := by decide +kernel
theorem dX11_dropOf_42 : decode cX11_dropOf 42 = .ok (.invokevirtual 53, 3) := by decide +kernel
theorem dX11_dropOf_45 : decode cX11_dropOf 45 = .ok (.goto 9, 3) := by decide +kernel
theorem dX11_dropOf_48 : decode cX11_dropOf 48 = .ok (.aload_n 0, 1) := by decide +kernel
theorem dX11_dropOf_49 : decode cX11_dropOf 49 = .ok (.ldc 126, 2) := by decide +kernel
theorem dX11_dropOf_51 : decode cX11_dropOf 51 = .ok (.invokevirtual 94, 3) := by decide +kernel
theorem dX11_dropOf_54 : decode cX11_dropOf 54 = .ok (.ireturn, 1) := by decide +kernel
theorem dX11_nextOf_0 : decode cX11_nextOf 0 = .ok (.aload_n 0, 1) := by decide +kernel
theorem dX11_nextOf_1 : decode cX11_nextOf 1 = .ok (.aload_n 0, 1) := by decide +kernel
theorem dX11_nextOf_2 : decode cX11_nextOf 2 = .ok (.iload_n 1, 1) := by decide +kernel
theorem dX11_nextOf_3 : decode cX11_nextOf 3 = .ok (.iconst 0, 1) := by decide +kernel
theorem dX11_nextOf_4 : decode cX11_nextOf 4 = .ok (.invokevirtual 53, 3) := by decide +kernel
theorem dX11_nextOf_7 : decode cX11_nextOf 7 = .ok (.aload_n 0, 1) := by decide +kernel
theorem dX11_nextOf_8 : decode cX11_nextOf 8 = .ok (.iload_n 1, 1) := by decide +kernel
theorem dX11_nextOf_9 : decode cX11_nextOf 9 = .ok (.iconst 1, 1) := by decide +kernel
theorem dX11_nextOf_10 : decode cX11_nextOf 10 = .ok (.invokevirtual 53, 3) := by decide +kernel
theorem dX11_nextOf_13 : decode cX11_nextOf 13 = .ok (.aload_n 0, 1) := by decide +kernel
theorem dX11_nextOf_14 : decode cX11_nextOf 14 = .ok (.iload_n 1, 1) := by decide +kernel
theorem dX11_nextOf_15 : decode cX11_nextOf 15 = .ok (.iconst 2, 1) := by decide +kernel
theorem dX11_nextOf_16 : decode cX11_nextOf 16 = .ok (.invokevirtual 53, 3) := by decide +kernel
theorem dX11_nextOf_19 : decode cX11_nextOf 19 = .ok (.aload_n 0, 1) := by decide +kernel
theorem dX11_nextOf_20 : decode cX11_nextOf 20 = .ok (.iload_n 1, 1) := by decide +kernel
theorem dX11_nextOf_21 : decode cX11_nextOf 21 = .ok (.iconst 3, 1) := by decide +kernel
theorem dX11_nextOf_22 : decode cX11_nextOf 22 = .ok (.invokevirtual 53, 3) := by decide +kernel
theorem dX11_nextOf_25 : decode cX11_nextOf 25 = .ok (.invokevirtual 140, 3) := by decide +kernel
theorem dX11_nextOf_28 : decode cX11_nextOf 28 = .ok (.ireturn, 1) := by decide +kernel
theorem dX11_goes_0 : decode cX11_goes 0 = .ok (.sipush 402, 3) := by decide +kernel
theorem dX11_goes_3 : decode cX11_goes 3 = .ok (.iconst 4, 1) := by decide +kernel
theorem dX11_goes_4 : decode cX11_goes 4 = .ok (.iload_n 1, 1) := by decide +kernel
theorem dX11_goes_5 : decode cX11_goes 5 = .ok (.imul, 1) := by decide +kernel
theorem dX11_goes_6 : decode cX11_goes 6 = .ok (.iadd, 1) := by decide +kernel
theorem dX11_goes_7 : decode cX11_goes 7 = .ok (.istore_n 2, 1) := by decide +kernel
theorem dX11_goes_8 : decode cX11_goes 8 = .ok (.aload_n 0, 1) := by decide +kernel
theorem dX11_goes_9 : decode cX11_goes 9 = .ok (.iload_n 1, 1) := by decide +kernel
theorem dX11_goes_10 : decode cX11_goes 10 = .ok (.invokevirtual 144, 3) := by decide +kernel
theorem dX11_goes_13 : decode cX11_goes 13 = .ok (.istore_n 3, 1) := by decide +kernel
theorem dX11_goes_14 : decode cX11_goes 14 = .ok (.iload_n 3, 1) := by decide +kernel
theorem dX11_goes_15 : decode cX11_goes 15 = .ok (.aload_n 0, 1) := by decide +kernel
theorem dX11_goes_16 : decode cX11_goes 16 = .ok (.getfield 9, 3) := by decide +kernel
theorem dX11_goes_19 : decode cX11_goes 19 = .ok (.iload_n 2, 1) := by decide +kernel
theorem dX11_goes_20 : decode cX11_goes 20 = .ok (.iconst 1, 1) := by decide +kernel
theorem dX11_goes_21 : decode cX11_goes 21 = .ok (.iadd, 1) := by decide +kernel
theorem dX11_goes_22 : decode cX11_goes 22 = .ok (.iaload, 1) := by decide +kernel
theorem dX11_goes_23 : decode cX11_goes 23 = .ok (.if_icmp .ne 4, 3) := by decide +kernel
theorem dX11_goes_26 : decode cX11_goes 26 = .ok (.return_, 1) := by decide +kernel
theorem dX11_goes_27 : decode cX11_goes 27 = .ok (.iload_n 3, 1) := by decide +kernel
theorem dX11_goes_28 : decode cX11_goes 28 = .ok (.ifCond .ge 41, 3) := by decide +kernel
theorem dX11_goes_31 : decode cX11_goes 31 = .ok (.aload_n 0, 1) := by decide +kernel
theorem dX11_goes_32 : decode cX11_goes 32 = .ok (.getfield 9, 3) := by decide +kernel
theorem dX11_goes_35 : decode cX11_goes 35 = .ok (.bipush 6, 2) := by decide +kernel
theorem dX11_goes_37 : decode cX11_goes 37 = .ok (.aload_n 0, 1) := by decide +kernel
theorem dX11_goes_38 : decode cX11_goes 38 = .ok (.getfield 9, 3) := by decide +kernel
theorem dX11_goes_41 : decode cX11_goes 41 = .ok (.iload_n 2, 1) := by decide +kernel
theorem dX11_goes_42 : decode cX11_goes 42 = .ok (.iconst 1, 1) := by decide +kernel
theorem dX11_goes_43 : decode cX11_goes 43 = .ok (.iadd, 1) := by decide +kernel
theorem dX11_goes_44 : decode cX11_goes 44 = .ok (.iaload, 1) := by decide +kernel
theorem dX11_goes_45 : decode cX11_goes 45 = .ok (.bipush 12, 2) := by decide +kernel
theorem dX11_goes_47 : decode cX11_goes 47 = .ok (.irem, 1) := by decide +kernel
theorem dX11_goes_48 : decode cX11_goes 48 = .ok (.iadd, 1) := by decide +kernel
theorem dX11_goes_49 : decode cX11_goes 49 = .ok (.dup2, 1) := by decide +kernel
theorem dX11_goes_50 : decode cX11_goes 50 = .ok (.iaload, 1) := by decide +kernel
theorem dX11_goes_51 : decode cX11_goes 51 = .ok (.aload_n 0, 1) := by decide +kernel
theorem dX11_goes_52 : decode cX11_goes 52 = .ok (.getfield 9, 3) := by decide +kernel
theorem dX11_goes_55 : decode cX11_goes 55 = .ok (.iload_n 2, 1) := by decide +kernel
theorem dX11_goes_56 : decode cX11_goes 56 = .ok (.iconst 2, 1) := by decide +kernel
theorem dX11_goes_57 : decode cX11_goes 57 = .ok (.iadd, 1) := by decide +kernel
theorem dX11_goes_58 : decode cX11_goes 58 = .ok (.iaload, 1) := by decide +kernel
theorem dX11_goes_59 : decode cX11_goes 59 = .ok (.iadd, 1) := by decide +kernel
theorem dX11_goes_60 : decode cX11_goes 60 = .ok (.iastore, 1) := by decide +kernel
theorem dX11_goes_61 : decode cX11_goes 61 = .ok (.aload_n 0, 1) := by decide +kernel
theorem dX11_goes_62 : decode cX11_goes 62 = .ok (.getfield 9, 3) := by decide +kernel
theorem dX11_goes_65 : decode cX11_goes 65 = .ok (.iload_n 2, 1) := by decide +kernel
theorem dX11_goes_66 : decode cX11_goes 66 = .ok (.iconst (-1), 1) := by decide +kernel
theorem dX11_goes_67 : decode cX11_goes 67 = .ok (.iastore, 1) := by decide +kernel
theorem dX11_goes_68 : decode cX11_goes 68 = .ok (.return_, 1) := by decide +kernel
theorem dX11_goes_69 : decode cX11_goes 69 = .ok (.aload_n 0, 1) := by decide +kernel
theorem dX11_goes_70 : decode cX11_goes 70 = .ok (.getfield 9, 3) := by decide +kernel
theorem dX11_goes_73 : decode cX11_goes 73 = .ok (.iload_n 2, 1) := by decide +kernel
theorem dX11_goes_74 : decode cX11_goes 74 = .ok (.iconst 1, 1) := by decide +kernel
theorem dX11_goes_75 : decode cX11_goes 75 = .ok (.iadd, 1) := by decide +kernel
theorem dX11_goes_76 : decode cX11_goes 76 = .ok (.iload_n 3, 1) := by decide +kernel
theorem dX11_goes_77 : decode cX11_goes 77 = .ok (.iastore, 1) := by decide +kernel
theorem dX11_goes_78 : decode cX11_goes 78 = .ok (.aload_n 0, 1) := by decide +kernel
theorem dX11_goes_79 : decode cX11_goes 79 = .ok (.getfield 9, 3) := by decide +kernel
theorem dX11_goes_82 : decode cX11_goes 82 = .ok (.iload_n 2, 1) := by decide +kernel
theorem dX11_goes_83 : decode cX11_goes 83 = .ok (.iconst 3, 1) := by decide +kernel
theorem dX11_goes_84 : decode cX11_goes 84 = .ok (.iadd, 1) := by decide +kernel
theorem dX11_goes_85 : decode cX11_goes 85 = .ok (.dup2, 1) := by decide +kernel
theorem dX11_goes_86 : decode cX11_goes 86 = .ok (.iaload, 1) := by decide +kernel
theorem dX11_goes_87 : decode cX11_goes 87 = .ok (.iconst 1, 1) := by decide +kernel
theorem dX11_goes_88 : decode cX11_goes 88 = .ok (.iadd, 1) := by decide +kernel
theorem dX11_goes_89 : decode cX11_goes 89 = .ok (.iastore, 1) := by decide +kernel
theorem dX11_goes_90 : decode cX11_goes 90 = .ok (.aload_n 0, 1) := by decide +kernel
theorem dX11_goes_91 : decode cX11_goes 91 = .ok (.getfield 9, 3) := by decide +kernel
theorem dX11_goes_94 : decode cX11_goes 94 = .ok (.sipush 210, 3) := by decide +kernel
theorem dX11_goes_97 : decode cX11_goes 97 = .ok (.iload_n 3, 1) := by decide +kernel
theorem dX11_goes_98 : decode cX11_goes 98 = .ok (.iadd, 1) := by decide +kernel
theorem dX11_goes_99 : decode cX11_goes 99 = .ok (.bipush 99, 2) := by decide +kernel
theorem dX11_goes_101 : decode cX11_goes 101 = .ok (.iastore, 1) := by decide +kernel
theorem dX11_goes_102 : decode cX11_goes 102 = .ok (.aload_n 0, 1) := by decide +kernel
theorem dX11_goes_103 : decode cX11_goes 103 = .ok (.getfield 9, 3) := by decide +kernel
theorem dX11_goes_106 : decode cX11_goes 106 = .ok (.iload_n 2, 1) := by decide +kernel
theorem dX11_goes_107 : decode cX11_goes 107 = .ok (.iaload, 1) := by decide +kernel
theorem dX11_goes_108 : decode cX11_goes 108 = .ok (.invokestatic 147, 3) := by decide +kernel
theorem dX11_goes_111 : decode cX11_goes 111 = .ok (.ifCond .ne 4, 3) := by decide +kernel
theorem dX11_goes_114 : decode cX11_goes 114 = .ok (.return_, 1) := by decide +kernel
theorem dX11_goes_115 : decode cX11_goes 115 = .ok (.aload_n 0, 1) := by decide +kernel
theorem dX11_goes_116 : decode cX11_goes 116 = .ok (.getfield 9, 3) := by decide +kernel
theorem dX11_goes_119 : decode cX11_goes 119 = .ok (.iload_n 2, 1) := by decide +kernel
theorem dX11_goes_120 : decode cX11_goes 120 = .ok (.iconst 2, 1) := by decide +kernel
theorem dX11_goes_121 : decode cX11_goes 121 = .ok (.iadd, 1) := by decide +kernel
theorem dX11_goes_122 : decode cX11_goes 122 = .ok (.dup2, 1) := by decide +kernel
theorem dX11_goes_123 : decode cX11_goes 123 = .ok (.iaload, 1) := by decide +kernel
theorem dX11_goes_124 : decode cX11_goes 124 = .ok (.iconst 1, 1) := by decide +kernel
theorem dX11_goes_125 : decode cX11_goes 125 = .ok (.isub, 1) := by decide +kernel
theorem dX11_goes_126 : decode cX11_goes 126 = .ok (.iastore, 1) := by decide +kernel
theorem dX11_goes_127 : decode cX11_goes 127 = .ok (.aload_n 0, 1) := by decide +kernel
theorem dX11_goes_128 : decode cX11_goes 128 = .ok (.getfield 9, 3) := by decide +kernel
theorem dX11_goes_131 : decode cX11_goes 131 = .ok (.iload_n 2, 1) := by decide +kernel
theorem dX11_goes_132 : decode cX11_goes 132 = .ok (.iconst 2, 1) := by decide +kernel
theorem dX11_goes_133 : decode cX11_goes 133 = .ok (.iadd, 1) := by decide +kernel
theorem dX11_goes_134 : decode cX11_goes 134 = .ok (.iaload, 1) := by decide +kernel
theorem dX11_goes_135 : decode cX11_goes 135 = .ok (.ifCond .ne 10, 3) := by decide +kernel
theorem dX11_goes_138 : decode cX11_goes 138 = .ok (.aload_n 0, 1) := by decide +kernel
theorem dX11_goes_139 : decode cX11_goes 139 = .ok (.getfield 9, 3) := by decide +kernel
theorem dX11_goes_142 : decode cX11_goes 142 = .ok (.iload_n 2, 1) := by decide +kernel
theorem dX11_goes_143 : decode cX11_goes 143 = .ok (.iconst (-1), 1) := by decide +kernel
theorem dX11_goes_144 : decode cX11_goes 144 = .ok (.iastore, 1) := by decide +kernel
theorem dX11_goes_145 : decode cX11_goes 145 = .ok (.return_, 1) := by decide +kernel
theorem dX11_blown_0 : decode cX11_blown 0 = .ok (.sipush 402, 3) := by decide +kernel
theorem dX11_blown_3 : decode cX11_blown 3 = .ok (.iconst 4, 1) := by decide +kernel
theorem dX11_blown_4 : decode cX11_blown 4 = .ok (.iload_n 1, 1) := by decide +kernel
theorem dX11_blown_5 : decode cX11_blown 5 = .ok (.imul, 1) := by decide +kernel
theorem dX11_blown_6 : decode cX11_blown 6 = .ok (.iadd, 1) := by decide +kernel
theorem dX11_blown_7 : decode cX11_blown 7 = .ok (.istore_n 2, 1) := by decide +kernel
theorem dX11_blown_8 : decode cX11_blown 8 = .ok (.aload_n 0, 1) := by decide +kernel
theorem dX11_blown_9 : decode cX11_blown 9 = .ok (.getfield 9, 3) := by decide +kernel
theorem dX11_blown_12 : decode cX11_blown 12 = .ok (.iconst 1, 1) := by decide +kernel
theorem dX11_blown_13 : decode cX11_blown 13 = .ok (.iaload, 1) := by decide +kernel
theorem dX11_blown_14 : decode cX11_blown 14 = .ok (.istore_n 3, 1) := by decide +kernel
theorem dX11_blown_15 : decode cX11_blown 15 = .ok (.aload_n 0, 1) := by decide +kernel
theorem dX11_blown_16 : decode cX11_blown 16 = .ok (.getfield 9, 3) := by decide +kernel
theorem dX11_blown_19 : decode cX11_blown 19 = .ok (.iload_n 2, 1) := by decide +kernel
theorem dX11_blown_20 : decode cX11_blown 20 = .ok (.iconst 2, 1) := by decide +kernel
theorem dX11_blown_21 : decode cX11_blown 21 = .ok (.iadd, 1) := by decide +kernel
theorem dX11_blown_22 : decode cX11_blown 22 = .ok (.iaload, 1) := by decide +kernel
theorem dX11_blown_23 : decode cX11_blown 23 = .ok (.iload_n 3, 1) := by decide +kernel
theorem dX11_blown_24 : decode cX11_blown 24 = .ok (.ifCond .ge 8, 3) := by decide +kernel
theorem dX11_blown_27 : decode cX11_blown 27 = .ok (.iload_n 3, 1) := by decide +kernel
theorem dX11_blown_28 : decode cX11_blown 28 = .ok (.ineg, 1) := by decide +kernel
theorem dX11_blown_29 : decode cX11_blown 29 = .ok (.goto 4, 3) := by decide +kernel
theorem dX11_blown_32 : decode cX11_blown 32 = .ok (.iload_n 3, 1) := by decide +kernel
theorem dX11_blown_33 : decode cX11_blown 33 = .ok (.if_icmp .lt 4, 3) := by decide +kernel
theorem dX11_blown_36 : decode cX11_blown 36 = .ok (.return_, 1) := by decide +kernel
theorem dX11_blown_37 : decode cX11_blown 37 = .ok (.aload_n 0, 1) := by decide +kernel
theorem dX11_blown_38 : decode cX11_blown 38 = .ok (.getfield 9, 3) := by decide +kernel
theorem dX11_blown_41 : decode cX11_blown 41 = .ok (.iload_n 2, 1) := by decide +kernel
theorem dX11_blown_42 : decode cX11_blown 42 = .ok (.iconst 1, 1) := by decide +kernel
theorem dX11_blown_43 : decode cX11_blown 43 = .ok (.iadd, 1) := by decide +kernel
theorem dX11_blown_44 : decode cX11_blown 44 = .ok (.iaload, 1) := by decide +kernel
theorem dX11_blown_45 : decode cX11_blown 45 = .ok (.bipush 12, 2) := by decide +kernel
theorem dX11_blown_47 : decode cX11_blown 47 = .ok (.irem, 1) := by decide +kernel
theorem dX11_blown_48 : decode cX11_blown 48 = .ok (.iload_n 3, 1) := by decide +kernel
theorem dX11_blown_49 : decode cX11_blown 49 = .ok (.ifCond .ge 7, 3) := by decide +kernel
theorem dX11_blown_52 : decode cX11_blown 52 = .ok (.iconst (-1), 1) := by decide +kernel
theorem dX11_blown_53 : decode cX11_blown 53 = .ok (.goto 4, 3) := by decide +kernel
theorem dX11_blown_56 : decode cX11_blown 56 = .ok (.iconst 1, 1) := by decide +kernel
theorem dX11_blown_57 : decode cX11_blown 57 = .ok (.iadd, 1) := by decide +kernel
theorem dX11_blown_58 : decode cX11_blown 58 = .ok (.istore 4, 2) := by decide +kernel
theorem dX11_blown_60 : decode cX11_blown 60 = .ok (.iload 4, 2) := by decide +kernel
theorem dX11_blown_62 : decode cX11_blown 62 = .ok (.invokestatic 120, 3) := by decide +kernel
theorem dX11_blown_65 : decode cX11_blown 65 = .ok (.ifCond .ne 4, 3) := by decide +kernel
theorem dX11_blown_68 : decode cX11_blown 68 = .ok (.return_, 1) := by decide +kernel
theorem dX11_blown_69 : decode cX11_blown 69 = .ok (.aload_n 0, 1) := by decide +kernel
theorem dX11_blown_70 : decode cX11_blown 70 = .ok (.getfield 9, 3) := by decide +kernel
theorem dX11_blown_73 : decode cX11_blown 73 = .ok (.iload_n 2, 1) := by decide +kernel
theorem dX11_blown_74 : decode cX11_blown 74 = .ok (.iconst 1, 1) := by decide +kernel
theorem dX11_blown_75 : decode cX11_blown 75 = .ok (.iadd, 1) := by decide +kernel
theorem dX11_blown_76 : decode cX11_blown 76 = .ok (.dup2, 1) := by decide +kernel
theorem dX11_blown_77 : decode cX11_blown 77 = .ok (.iaload, 1) := by decide +kernel
theorem dX11_blown_78 : decode cX11_blown 78 = .ok (.iload_n 3, 1) := by decide +kernel
theorem dX11_blown_79 : decode cX11_blown 79 = .ok (.ifCond .ge 7, 3) := by decide +kernel
theorem dX11_blown_82 : decode cX11_blown 82 = .ok (.iconst (-1), 1) := by decide +kernel
theorem dX11_blown_83 : decode cX11_blown 83 = .ok (.goto 4, 3) := by decide +kernel
theorem dX11_blown_86 : decode cX11_blown 86 = .ok (.iconst 1, 1) := by decide +kernel
theorem dX11_blown_87 : decode cX11_blown 87 = .ok (.iadd, 1) := by decide +kernel
theorem dX11_blown_88 : decode cX11_blown 88 = .ok (.iastore, 1) := by decide +kernel
theorem dX11_blown_89 : decode cX11_blown 89 = .ok (.aload_n 0, 1) := by decide +kernel
theorem dX11_blown_90 : decode cX11_blown 90 = .ok (.getfield 9, 3) := by decide +kernel
theorem dX11_blown_93 : decode cX11_blown 93 = .ok (.sipush 210, 3) := by decide +kernel
theorem dX11_blown_96 : decode cX11_blown 96 = .ok (.aload_n 0, 1) := by decide +kernel
theorem dX11_blown_97 : decode cX11_blown 97 = .ok (.getfield 9, 3) := by decide +kernel
theorem dX11_blown_100 : decode cX11_blown 100 = .ok (.iload_n 2, 1) := by decide +kernel
theorem dX11_blown_101 : decode cX11_blown 101 = .ok (.iconst 1, 1) := by decide +kernel
theorem dX11_blown_102 : decode cX11_blown 102 = .ok (.iadd, 1) := by decide +kernel
theorem dX11_blown_103 : decode cX11_blown 103 = .ok (.iaload, 1) := by decide +kernel
theorem dX11_blown_104 : decode cX11_blown 104 = .ok (.iadd, 1) := by decide +kernel
theorem dX11_blown_105 : decode cX11_blown 105 = .ok (.bipush 99, 2) := by decide +kernel
theorem dX11_blown_107 : decode cX11_blown 107 = .ok (.iastore, 1) := by decide +kernel
theorem dX11_blown_108 : decode cX11_blown 108 = .ok (.return_, 1) := by decide +kernel
theorem dX11_joins_0 : decode cX11_joins 0 = .ok (.iconst 0, 1) := by decide +kernel
theorem dX11_joins_1 : decode cX11_joins 1 = .ok (.istore_n 1, 1) := by decide +kernel
theorem dX11_joins_2 : decode cX11_joins 2 = .ok (.iload_n 1, 1) := by decide +kernel
theorem dX11_joins_3 : decode cX11_joins 3 = .ok (.bipush 8, 2) := by decide +kernel
theorem dX11_joins_5 : decode cX11_joins 5 = .ok (.if_icmp .ge 114, 3) := by decide +kernel
theorem dX11_joins_8 : decode cX11_joins 8 = .ok (.iload_n 1, 1) := by decide +kernel
theorem dX11_joins_9 : decode cX11_joins 9 = .ok (.iconst 1, 1) := by decide +kernel
theorem dX11_joins_10 : decode cX11_joins 10 = .ok (.iadd, 1) := by decide +kernel
theorem dX11_joins_11 : decode cX11_joins 11 = .ok (.istore_n 2, 1) := by decide +kernel
theorem dX11_joins_12 : decode cX11_joins 12 = .ok (.iload_n 2, 1) := by decide +kernel
theorem dX11_joins_13 : decode cX11_joins 13 = .ok (.bipush 8, 2) := by decide +kernel
theorem dX11_joins_15 : decode cX11_joins 15 = .ok (.if_icmp .ge 98, 3) := by decide +kernel
theorem dX11_joins_18 : decode cX11_joins 18 = .ok (.aload_n 0, 1) := by decide +kernel
theorem dX11_joins_19 : decode cX11_joins 19 = .ok (.iload_n 1, 1) := by decide +kernel
theorem dX11_joins_20 : decode cX11_joins 20 = .ok (.iconst 0, 1) := by decide +kernel
theorem dX11_joins_21 : decode cX11_joins 21 = .ok (.invokevirtual 53, 3) := by decide +kernel
theorem dX11_joins_24 : decode cX11_joins 24 = .ok (.ifCond .lt 83, 3) := by decide +kernel
theorem dX11_joins_27 : decode cX11_joins 27 = .ok (.aload_n 0, 1) := by decide +kernel
theorem dX11_joins_28 : decode cX11_joins 28 = .ok (.iload_n 2, 1) := by decide +kernel
theorem dX11_joins_29 : decode cX11_joins 29 = .ok (.iconst 0, 1) := by decide +kernel
theorem dX11_joins_30 : decode cX11_joins 30 = .ok (.invokevirtual 53, 3) := by decide +kernel
theorem dX11_joins_33 : decode cX11_joins 33 = .ok (.ifCond .lt 74, 3) := by decide +kernel
theorem dX11_joins_36 : decode cX11_joins 36 = .ok (.aload_n 0, 1) := by decide +kernel
theorem dX11_joins_37 : decode cX11_joins 37 = .ok (.iload_n 1, 1) := by decide +kernel
theorem dX11_joins_38 : decode cX11_joins 38 = .ok (.iconst 1, 1) := by decide +kernel
theorem dX11_joins_39 : decode cX11_joins 39 = .ok (.invokevirtual 53, 3) := by decide +kernel
theorem dX11_joins_42 : decode cX11_joins 42 = .ok (.aload_n 0, 1) := by decide +kernel
theorem dX11_joins_43 : decode cX11_joins 43 = .ok (.iload_n 2, 1) := by decide +kernel
theorem dX11_joins_44 : decode cX11_joins 44 = .ok (.iconst 1, 1) := by decide +kernel
theorem dX11_joins_45 : decode cX11_joins 45 = .ok (.invokevirtual 53, 3) := by decide +kernel
theorem dX11_joins_48 : decode cX11_joins 48 = .ok (.if_icmp .eq 6, 3) := by decide +kernel
theorem dX11_joins_51 : decode cX11_joins 51 = .ok (.goto 56, 3) := by decide +kernel
theorem dX11_joins_54 : decode cX11_joins 54 = .ok (.aload_n 0, 1) := by decide +kernel
theorem dX11_joins_55 : decode cX11_joins 55 = .ok (.iload_n 1, 1) := by decide +kernel
theorem dX11_joins_56 : decode cX11_joins 56 = .ok (.iconst 2, 1) := by decide +kernel
theorem dX11_joins_57 : decode cX11_joins 57 = .ok (.invokevirtual 53, 3) := by decide +kernel
theorem dX11_joins_60 : decode cX11_joins 60 = .ok (.aload_n 0, 1) := by decide +kernel
theorem dX11_joins_61 : decode cX11_joins 61 = .ok (.iload_n 2, 1) := by decide +kernel
theorem dX11_joins_62 : decode cX11_joins 62 = .ok (.iconst 2, 1) := by decide +kernel
theorem dX11_joins_63 : decode cX11_joins 63 = .ok (.invokevirtual 53, 3) := by decide +kernel
theorem dX11_joins_66 : decode cX11_joins 66 = .ok (.iadd, 1) := by decide +kernel
theorem dX11_joins_67 : decode cX11_joins 67 = .ok (.istore_n 3, 1) := by decide +kernel
theorem dX11_joins_68 : decode cX11_joins 68 = .ok (.aload_n 0, 1) := by decide +kernel
theorem dX11_joins_69 : decode cX11_joins 69 = .ok (.getfield 9, 3) := by decide +kernel
theorem dX11_joins_72 : decode cX11_joins 72 = .ok (.sipush 402, 3) := by decide +kernel
theorem dX11_joins_75 : decode cX11_joins 75 = .ok (.iconst 4, 1) := by decide +kernel
theorem dX11_joins_76 : decode cX11_joins 76 = .ok (.iload_n 1, 1) := by decide +kernel
theorem dX11_joins_77 : decode cX11_joins 77 = .ok (.imul, 1) := by decide +kernel
theorem dX11_joins_78 : decode cX11_joins 78 = .ok (.iadd, 1) := by decide +kernel
theorem dX11_joins_79 : decode cX11_joins 79 = .ok (.iconst 2, 1) := by decide +kernel
theorem dX11_joins_80 : decode cX11_joins 80 = .ok (.iadd, 1) := by decide +kernel
theorem dX11_joins_81 : decode cX11_joins 81 = .ok (.iload_n 3, 1) := by decide +kernel
theorem dX11_joins_82 : decode cX11_joins 82 = .ok (.bipush 99, 2) := by decide +kernel
theorem dX11_joins_84 : decode cX11_joins 84 = .ok (.if_icmp .le 8, 3) := by decide +kernel
theorem dX11_joins_87 : decode cX11_joins 87 = .ok (.bipush 99, 2) := by decide +kernel
theorem dX11_joins_89 : decode cX11_joins 89 = .ok (.goto 4, 3) := by decide +kernel
theorem dX11_joins_92 : decode cX11_joins 92 = .ok (.iload_n 3, 1) := by decide +kernel
theorem dX11_joins_93 : decode cX11_joins 93 = .ok (.iastore, 1) := by decide +kernel
theorem dX11_joins_94 : decode cX11_joins 94 = .ok (.aload_n 0, 1) := by decide +kernel
theorem dX11_joins_95 : decode cX11_joins 95 = .ok (.getfield 9, 3) := by decide +kernel
theorem dX11_joins_98 : decode cX11_joins 98 = .ok (.sipush 402, 3) := by decide +kernel
theorem dX11_joins_101 : decode cX11_joins 101 = .ok (.iconst 4, 1) := by decide +kernel
theorem dX11_joins_102 : decode cX11_joins 102 = .ok (.iload_n 2, 1) := by decide +kernel
theorem dX11_joins_103 : decode cX11_joins 103 = .ok (.imul, 1) := by decide +kernel
theorem dX11_joins_104 : decode cX11_joins 104 = .ok (.iadd, 1) := by decide +kernel
theorem dX11_joins_105 : decode cX11_joins 105 = .ok (.iconst (-1), 1) := by decide +kernel
theorem dX11_joins_106 : decode cX11_joins 106 = .ok (.iastore, 1) := by decide +kernel
theorem dX11_joins_107 : decode cX11_joins 107 = .ok (.iinc 2 1, 3) := by decide +kernel
theorem dX11_joins_110 : decode cX11_joins 110 = .ok (.goto (-98), 3) := by decide +kernel
theorem dX11_joins_113 : decode cX11_joins 113 = .ok (.iinc 1 1, 3) := by decide +kernel
theorem dX11_joins_116 : decode cX11_joins 116 = .ok (.goto (-114), 3) := by decide +kernel
theorem dX11_joins_119 : decode cX11_joins 119 = .ok (.return_, 1) := by decide +kernel
theorem dX11_ticks_0 : decode cX11_ticks 0 = .ok (.iconst 0, 1) := by decide +kernel
theorem dX11_ticks_1 : decode cX11_ticks 1 = .ok (.istore_n 2, 1) := by decide +kernel
theorem dX11_ticks_2 : decode cX11_ticks 2 = .ok (.iload_n 2, 1) := by decide +kernel
theorem dX11_ticks_3 : decode cX11_ticks 3 = .ok (.iload_n 1, 1) := by decide +kernel
theorem dX11_ticks_4 : decode cX11_ticks 4 = .ok (.if_icmp .ge 142, 3) := by decide +kernel
theorem dX11_ticks_7 : decode cX11_ticks 7 = .ok (.iconst 0, 1) := by decide +kernel
theorem dX11_ticks_8 : decode cX11_ticks 8 = .ok (.istore_n 3, 1) := by decide +kernel
theorem dX11_ticks_9 : decode cX11_ticks 9 = .ok (.iload_n 3, 1) := by decide +kernel
theorem dX11_ticks_10 : decode cX11_ticks 10 = .ok (.bipush 8, 2) := by decide +kernel
theorem dX11_ticks_12 : decode cX11_ticks 12 = .ok (.if_icmp .ge 22, 3) := by decide +kernel
theorem dX11_ticks_15 : decode cX11_ticks 15 = .ok (.aload_n 0, 1) := by decide +kernel
theorem dX11_ticks_16 : decode cX11_ticks 16 = .ok (.iload_n 3, 1) := by decide +kernel
theorem dX11_ticks_17 : decode cX11_ticks 17 = .ok (.invokevirtual 137, 3) := by decide +kernel
theorem dX11_ticks_20 : decode cX11_ticks 20 = .ok (.ifCond .eq 8, 3) := by decide +kernel
theorem dX11_ticks_23 : decode cX11_ticks 23 = .ok (.aload_n 0, 1) := by decide +kernel
theorem dX11_ticks_24 : decode cX11_ticks 24 = .ok (.iload_n 3, 1) := by decide +kernel
theorem dX11_ticks_25 : decode cX11_ticks 25 = .ok (.invokevirtual 150, 3) := by decide +kernel
theorem dX11_ticks_28 : decode cX11_ticks 28 = .ok (.iinc 3 1, 3) := by decide +kernel
theorem dX11_ticks_31 : decode cX11_ticks 31 = .ok (.goto (-22), 3) := by decide +kernel
theorem dX11_ticks_34 : decode cX11_ticks 34 = .ok (.iconst 0, 1) := by decide +kernel
theorem dX11_ticks_35 : decode cX11_ticks 35 = .ok (.istore_n 3, 1) := by decide +kernel
theorem dX11_ticks_36 : decode cX11_ticks 36 = .ok (.iload_n 3, 1) := by decide +kernel
theorem dX11_ticks_37 : decode cX11_ticks 37 = .ok (.bipush 8, 2) := by decide +kernel
theorem dX11_ticks_39 : decode cX11_ticks 39 = .ok (.if_icmp .ge 22, 3) := by decide +kernel
theorem dX11_ticks_42 : decode cX11_ticks 42 = .ok (.aload_n 0, 1) := by decide +kernel
theorem dX11_ticks_43 : decode cX11_ticks 43 = .ok (.iload_n 3, 1) := by decide +kernel
theorem dX11_ticks_44 : decode cX11_ticks 44 = .ok (.invokevirtual 137, 3) := by decide +kernel
theorem dX11_ticks_47 : decode cX11_ticks 47 = .ok (.ifCond .eq 8, 3) := by decide +kernel
theorem dX11_ticks_50 : decode cX11_ticks 50 = .ok (.aload_n 0, 1) := by decide +kernel
theorem dX11_ticks_51 : decode cX11_ticks 51 = .ok (.iload_n 3, 1) := by decide +kernel
theorem dX11_ticks_52 : decode cX11_ticks 52 = .ok (.invokevirtual 154, 3) := by decide +kernel
theorem dX11_ticks_55 : decode cX11_ticks 55 = .ok (.iinc 3 1, 3) := by decide +kernel
theorem dX11_ticks_58 : decode cX11_ticks 58 = .ok (.goto (-22), 3) := by decide +kernel
theorem dX11_ticks_61 : decode cX11_ticks 61 = .ok (.aload_n 0, 1) := by decide +kernel
theorem dX11_ticks_62 : decode cX11_ticks 62 = .ok (.invokevirtual 157, 3) := by decide +kernel
theorem dX11_ticks_65 : decode cX11_ticks 65 = .ok (.iconst 0, 1) := by decide +kernel
theorem dX11_ticks_66 : decode cX11_ticks 66 = .ok (.istore_n 3, 1) := by decide +kernel
theorem dX11_ticks_67 : decode cX11_ticks 67 = .ok (.iload_n 3, 1) := by decide +kernel
theorem dX11_ticks_68 : decode cX11_ticks 68 = .ok (.sipush 192, 3) := by decide +kernel
theorem dX11_ticks_71 : decode cX11_ticks 71 = .ok (.if_icmp .ge 59, 3) := by decide +kernel
theorem dX11_ticks_74 : decode cX11_ticks 74 = .ok (.aload_n 0, 1) := by decide +kernel
theorem dX11_ticks_75 : decode cX11_ticks 75 = .ok (.getfield 9, 3) := by decide +kernel
theorem dX11_ticks_78 : decode cX11_ticks 78 = .ok (.sipush 210, 3) := by decide +kernel
theorem dX11_ticks_81 : decode cX11_ticks 81 = .ok (.iload_n 3, 1) := by decide +kernel
theorem dX11_ticks_82 : decode cX11_ticks 82 = .ok (.iadd, 1) := by decide +kernel
theorem dX11_ticks_83 : decode cX11_ticks 83 = .ok (.aload_n 0, 1) := by decide +kernel
theorem dX11_ticks_84 : decode cX11_ticks 84 = .ok (.getfield 9, 3) := by decide +kernel
theorem dX11_ticks_87 : decode cX11_ticks 87 = .ok (.sipush 210, 3) := by decide +kernel
theorem dX11_ticks_90 : decode cX11_ticks 90 = .ok (.iload_n 3, 1) := by decide +kernel
theorem dX11_ticks_91 : decode cX11_ticks 91 = .ok (.iadd, 1) := by decide +kernel
theorem dX11_ticks_92 : decode cX11_ticks 92 = .ok (.iaload, 1) := by decide +kernel
theorem dX11_ticks_93 : decode cX11_ticks 93 = .ok (.aload_n 0, 1) := by decide +kernel
theorem dX11_ticks_94 : decode cX11_ticks 94 = .ok (.getfield 9, 3) := by decide +kernel
theorem dX11_ticks_97 : decode cX11_ticks 97 = .ok (.iconst 2, 1) := by decide +kernel
theorem dX11_ticks_98 : decode cX11_ticks 98 = .ok (.iaload, 1) := by decide +kernel
theorem dX11_ticks_99 : decode cX11_ticks 99 = .ok (.if_icmp .le 23, 3) := by decide +kernel
theorem dX11_ticks_102 : decode cX11_ticks 102 = .ok (.aload_n 0, 1) := by decide +kernel
theorem dX11_ticks_103 : decode cX11_ticks 103 = .ok (.getfield 9, 3) := by decide +kernel
theorem dX11_ticks_106 : decode cX11_ticks 106 = .ok (.sipush 210, 3) := by decide +kernel
theorem dX11_ticks_109 : decode cX11_ticks 109 = .ok (.iload_n 3, 1) := by decide +kernel
theorem dX11_ticks_110 : decode cX11_ticks 110 = .ok (.iadd, 1) := by decide +kernel
theorem dX11_ticks_111 : decode cX11_ticks 111 = .ok (.iaload, 1) := by decide +kernel
theorem dX11_ticks_112 : decode cX11_ticks 112 = .ok (.aload_n 0, 1) := by decide +kernel
theorem dX11_ticks_113 : decode cX11_ticks 113 = .ok (.getfield 9, 3) := by decide +kernel
theorem dX11_ticks_116 : decode cX11_ticks 116 = .ok (.iconst 2, 1) := by decide +kernel
theorem dX11_ticks_117 : decode cX11_ticks 117 = .ok (.iaload, 1) := by decide +kernel
theorem dX11_ticks_118 : decode cX11_ticks 118 = .ok (.isub, 1) := by decide +kernel
theorem dX11_ticks_119 : decode cX11_ticks 119 = .ok (.goto 4, 3) := by decide +kernel
theorem dX11_ticks_122 : decode cX11_ticks 122 = .ok (.iconst 0, 1) := by decide +kernel
theorem dX11_ticks_123 : decode cX11_ticks 123 = .ok (.iastore, 1) := by decide +kernel
theorem dX11_ticks_124 : decode cX11_ticks 124 = .ok (.iinc 3 1, 3) := by decide +kernel
theorem dX11_ticks_127 : decode cX11_ticks 127 = .ok (.goto (-60), 3) := by decide +kernel
theorem dX11_ticks_130 : decode cX11_ticks 130 = .ok (.aload_n 0, 1) := by decide +kernel
theorem dX11_ticks_131 : decode cX11_ticks 131 = .ok (.getfield 9, 3) := by decide +kernel
theorem dX11_ticks_134 : decode cX11_ticks 134 = .ok (.iconst 4, 1) := by decide +kernel
theorem dX11_ticks_135 : decode cX11_ticks 135 = .ok (.dup2, 1) := by decide +kernel
theorem dX11_ticks_136 : decode cX11_ticks 136 = .ok (.iaload, 1) := by decide +kernel
theorem dX11_ticks_137 : decode cX11_ticks 137 = .ok (.iconst 1, 1) := by decide +kernel
theorem dX11_ticks_138 : decode cX11_ticks 138 = .ok (.iadd, 1) := by decide +kernel
theorem dX11_ticks_139 : decode cX11_ticks 139 = .ok (.iastore, 1) := by decide +kernel
theorem dX11_ticks_140 : decode cX11_ticks 140 = .ok (.iinc 2 1, 3) := by decide +kernel
theorem dX11_ticks_143 : decode cX11_ticks 143 = .ok (.goto (-141), 3) := by decide +kernel
theorem dX11_ticks_146 : decode cX11_ticks 146 = .ok (.return_, 1) := by decide +kernel
theorem dX11_tick_0 : decode cX11_tick 0 = .ok (.iload_n 1, 1) := by decide +kernel
theorem dX11_tick_1 : decode cX11_tick 1 = .ok (.i2l, 1) := by decide +kernel
theorem dX11_tick_2 : decode cX11_tick 2 = .ok (.lconst 1, 1) := by decide +kernel
theorem dX11_tick_3 : decode cX11_tick 3 = .ok (.ldc2_w 160, 3) := by decide +kernel
theorem dX11_tick_6 : decode cX11_tick 6 = .ok (.invokestatic 43, 3) := by decide +kernel
theorem dX11_tick_9 : decode cX11_tick 9 = .ok (.ifCond .ne 10, 3) := by decide +kernel
theorem dX11_tick_12 : decode cX11_tick 12 = .ok (.aload_n 0, 1) := by decide +kernel
theorem dX11_tick_13 : decode cX11_tick 13 = .ok (.ldc 40, 2) := by decide +kernel
theorem dX11_tick_15 : decode cX11_tick 15 = .ok (.invokevirtual 94, 3) := by decide +kernel
theorem dX11_tick_18 : decode cX11_tick 18 = .ok (.ireturn, 1) := by decide +kernel
theorem dX11_tick_19 : decode cX11_tick 19 = .ok (.aload_n 0, 1) := by decide +kernel
theorem dX11_tick_20 : decode cX11_tick 20 = .ok (.iload_n 1, 1) := by decide +kernel
theorem dX11_tick_21 : decode cX11_tick 21 = .ok (.invokevirtual 162, 3) := by decide +kernel
theorem dX11_tick_24 : decode cX11_tick 24 = .ok (.aload_n 0, 1) := by decide +kernel
theorem dX11_tick_25 : decode cX11_tick 25 = .ok (.invokevirtual 165, 3) := by decide +kernel
theorem dX11_tick_28 : decode cX11_tick 28 = .ok (.ireturn, 1) := by decide +kernel
theorem dX11_next_0 : decode cX11_next 0 = .ok (.iload_n 1, 1) := by decide +kernel
theorem dX11_next_1 : decode cX11_next 1 = .ok (.i2l, 1) := by decide +kernel
theorem dX11_next_2 : decode cX11_next 2 = .ok (.lconst 0, 1) := by decide +kernel
theorem dX11_next_3 : decode cX11_next 3 = .ok (.ldc2_w 51, 3) := by decide +kernel
theorem dX11_next_6 : decode cX11_next 6 = .ok (.invokestatic 43, 3) := by decide +kernel
theorem dX11_next_9 : decode cX11_next 9 = .ok (.ifCond .ne 10, 3) := by decide +kernel
theorem dX11_next_12 : decode cX11_next 12 = .ok (.aload_n 0, 1) := by decide +kernel
theorem dX11_next_13 : decode cX11_next 13 = .ok (.ldc 40, 2) := by decide +kernel
theorem dX11_next_15 : decode cX11_next 15 = .ok (.invokevirtual 94, 3) := by decide +kernel
theorem dX11_next_18 : decode cX11_next 18 = .ok (.ireturn, 1) := by decide +kernel
theorem dX11_next_19 : decode cX11_next 19 = .ok (.aload_n 0, 1) := by decide +kernel
theorem dX11_next_20 : decode cX11_next 20 = .ok (.iload_n 1, 1) := by decide +kernel
theorem dX11_next_21 : decode cX11_next 21 = .ok (.invokevirtual 137, 3) := by decide +kernel
theorem dX11_next_24 : decode cX11_next 24 = .ok (.ifCond .eq 11, 3) := by decide +kernel
theorem dX11_next_27 : decode cX11_next 27 = .ok (.aload_n 0, 1) := by decide +kernel
theorem dX11_next_28 : decode cX11_next 28 = .ok (.iload_n 1, 1) := by decide +kernel
theorem dX11_next_29 : decode cX11_next 29 = .ok (.invokevirtual 144, 3) := by decide +kernel
theorem dX11_next_32 : decode cX11_next 32 = .ok (.goto 9, 3) := by decide +kernel
theorem dX11_next_35 : decode cX11_next 35 = .ok (.aload_n 0, 1) := by decide +kernel
theorem dX11_next_36 : decode cX11_next 36 = .ok (.ldc 126, 2) := by decide +kernel
theorem dX11_next_38 : decode cX11_next 38 = .ok (.invokevirtual 94, 3) := by decide +kernel
theorem dX11_next_41 : decode cX11_next 41 = .ok (.ireturn, 1) := by decide +kernel
theorem dX11_pour_0 : decode cX11_pour 0 = .ok (.iload_n 1, 1) := by decide +kernel
theorem dX11_pour_1 : decode cX11_pour 1 = .ok (.i2l, 1) := by decide +kernel
theorem dX11_pour_2 : decode cX11_pour 2 = .ok (.lconst 0, 1) := by decide +kernel
theorem dX11_pour_3 : decode cX11_pour 3 = .ok (.ldc2_w 51, 3) := by decide +kernel
theorem dX11_pour_6 : decode cX11_pour 6 = .ok (.invokestatic 43, 3) := by decide +kernel
theorem dX11_pour_9 : decode cX11_pour 9 = .ok (.ifCond .eq 10, 3) := by decide +kernel
theorem dX11_pour_12 : decode cX11_pour 12 = .ok (.iload_n 2, 1) := by decide +kernel
theorem dX11_pour_13 : decode cX11_pour 13 = .ok (.invokestatic 130, 3) := by decide +kernel
theorem dX11_pour_16 : decode cX11_pour 16 = .ok (.ifCond .ne 10, 3) := by decide +kernel
theorem dX11_pour_19 : decode cX11_pour 19 = .ok (.aload_n 0, 1) := by decide +kernel
theorem dX11_pour_20 : decode cX11_pour 20 = .ok (.ldc 40, 2) := by decide +kernel
theorem dX11_pour_22 : decode cX11_pour 22 = .ok (.invokevirtual 94, 3) := by decide +kernel
theorem dX11_pour_25 : decode cX11_pour 25 = .ok (.ireturn, 1) := by decide +kernel
theorem dX11_pour_26 : decode cX11_pour 26 = .ok (.aload_n 0, 1) := by decide +kernel
theorem dX11_pour_27 : decode cX11_pour 27 = .ok (.iload_n 1, 1) := by decide +kernel
theorem dX11_pour_28 : decode cX11_pour 28 = .ok (.invokevirtual 137, 3) := by decide +kernel
theorem dX11_pour_31 : decode cX11_pour 31 = .ok (.ifCond .ne 10, 3) := by decide +kernel
theorem dX11_pour_34 : decode cX11_pour 34 = .ok (.aload_n 0, 1) := by decide +kernel
theorem dX11_pour_35 : decode cX11_pour 35 = .ok (.ldc 126, 2) := by decide +kernel
theorem dX11_pour_37 : decode cX11_pour 37 = .ok (.invokevirtual 94, 3) := by decide +kernel
theorem dX11_pour_40 : decode cX11_pour 40 = .ok (.ireturn, 1) := by decide +kernel
theorem dX11_pour_41 : decode cX11_pour 41 = .ok (.aload_n 0, 1) := by decide +kernel
theorem dX11_pour_42 : decode cX11_pour 42 = .ok (.iload_n 1, 1) := by decide +kernel
theorem dX11_pour_43 : decode cX11_pour 43 = .ok (.iconst 2, 1) := by decide +kernel
theorem dX11_pour_44 : decode cX11_pour 44 = .ok (.invokevirtual 53, 3) := by decide +kernel
theorem dX11_pour_47 : decode cX11_pour 47 = .ok (.iload_n 2, 1) := by decide +kernel
theorem dX11_pour_48 : decode cX11_pour 48 = .ok (.iadd, 1) := by decide +kernel
theorem dX11_pour_49 : decode cX11_pour 49 = .ok (.istore_n 3, 1) := by decide +kernel
theorem dX11_pour_50 : decode cX11_pour 50 = .ok (.aload_n 0, 1) := by decide +kernel
theorem dX11_pour_51 : decode cX11_pour 51 = .ok (.getfield 9, 3) := by decide +kernel
theorem dX11_pour_54 : decode cX11_pour 54 = .ok (.sipush 402, 3) := by decide +kernel
theorem dX11_pour_57 : decode cX11_pour 57 = .ok (.iconst 4, 1) := by decide +kernel
theorem dX11_pour_58 : decode cX11_pour 58 = .ok (.iload_n 1, 1) := by decide +kernel
theorem dX11_pour_59 : decode cX11_pour 59 = .ok (.imul, 1) := by decide +kernel
theorem dX11_pour_60 : decode cX11_pour 60 = .ok (.iadd, 1) := by decide +kernel
theorem dX11_pour_61 : decode cX11_pour 61 = .ok (.iconst 2, 1) := by decide +kernel
theorem dX11_pour_62 : decode cX11_pour 62 = .ok (.iadd, 1) := by decide +kernel
theorem dX11_pour_63 : decode cX11_pour 63 = .ok (.iload_n 3, 1) := by decide +kernel
theorem dX11_pour_64 : decode cX11_pour 64 = .ok (.bipush 99, 2) := by decide +kernel
theorem dX11_pour_66 : decode cX11_pour 66 = .ok (.if_icmp .le 8, 3) := by decide +kernel
theorem dX11_pour_69 : decode cX11_pour 69 = .ok (.bipush 99, 2) := by decide +kernel
theorem dX11_pour_71 : decode cX11_pour 71 = .ok (.goto 4, 3) := by decide +kernel
theorem dX11_pour_74 : decode cX11_pour 74 = .ok (.iload_n 3, 1) := by decide +kernel
theorem dX11_pour_75 : decode cX11_pour 75 = .ok (.iastore, 1) := by decide +kernel
theorem dX11_pour_76 : decode cX11_pour 76 = .ok (.aload_n 0, 1) := by decide +kernel
theorem dX11_pour_77 : decode cX11_pour 77 = .ok (.iload_n 1, 1) := by decide +kernel
theorem dX11_pour_78 : decode cX11_pour 78 = .ok (.iconst 2, 1) := by decide +kernel
theorem dX11_pour_79 : decode cX11_pour 79 = .ok (.invokevirtual 53, 3) := by decide +kernel
theorem dX11_pour_82 : decode cX11_pour 82 = .ok (.ireturn, 1) := by decide +kernel
theorem dX11_shed_0 : decode cX11_shed 0 = .ok (.iload_n 1, 1) := by decide +kernel
theorem dX11_shed_1 : decode cX11_shed 1 = .ok (.i2l, 1) := by decide +kernel
theorem dX11_shed_2 : decode cX11_shed 2 = .ok (.ldc2_w 168, 3) := by decide +kernel
theorem dX11_shed_5 : decode cX11_shed 5 = .ok (.ldc2_w 47, 3) := by decide +kernel
theorem dX11_shed_8 : decode cX11_shed 8 = .ok (.invokestatic 43, 3) := by decide +kernel
theorem dX11_shed_11 : decode cX11_shed 11 = .ok (.ifCond .ne 10, 3) := by decide +kernel
theorem dX11_shed_14 : decode cX11_shed 14 = .ok (.aload_n 0, 1) := by decide +kernel
theorem dX11_shed_15 : decode cX11_shed 15 = .ok (.ldc 40, 2) := by decide +kernel
theorem dX11_shed_17 : decode cX11_shed 17 = .ok (.invokevirtual 94, 3) := by decide +kernel
theorem dX11_shed_20 : decode cX11_shed 20 = .ok (.ireturn, 1) := by decide +kernel
theorem dX11_shed_21 : decode cX11_shed 21 = .ok (.iconst 0, 1) := by decide +kernel
theorem dX11_shed_22 : decode cX11_shed 22 = .ok (.istore_n 2, 1) := by decide +kernel
theorem dX11_shed_23 : decode cX11_shed 23 = .ok (.iconst 0, 1) := by decide +kernel
theorem dX11_shed_24 : decode cX11_shed 24 = .ok (.istore_n 3, 1) := by decide +kernel
theorem dX11_shed_25 : decode cX11_shed 25 = .ok (.iload_n 3, 1) := by decide +kernel
theorem dX11_shed_26 : decode cX11_shed 26 = .ok (.bipush 12, 2) := by decide +kernel
theorem dX11_shed_28 : decode cX11_shed 28 = .ok (.if_icmp .ge 34, 3) := by decide +kernel
theorem dX11_shed_31 : decode cX11_shed 31 = .ok (.iload_n 2, 1) := by decide +kernel
theorem dX11_shed_32 : decode cX11_shed 32 = .ok (.iload_n 1, 1) := by decide +kernel
theorem dX11_shed_33 : decode cX11_shed 33 = .ok (.ifCond .lt 8, 3) := by decide +kernel
theorem dX11_shed_36 : decode cX11_shed 36 = .ok (.iload_n 3, 1) := by decide +kernel
theorem dX11_shed_37 : decode cX11_shed 37 = .ok (.iload_n 1, 1) := by decide +kernel
theorem dX11_shed_38 : decode cX11_shed 38 = .ok (.if_icmp .ne 15, 3) := by decide +kernel
theorem dX11_shed_41 : decode cX11_shed 41 = .ok (.aload_n 0, 1) := by decide +kernel
theorem dX11_shed_42 : decode cX11_shed 42 = .ok (.getfield 9, 3) := by decide +kernel
theorem dX11_shed_45 : decode cX11_shed 45 = .ok (.bipush 6, 2) := by decide +kernel
theorem dX11_shed_47 : decode cX11_shed 47 = .ok (.iload_n 3, 1) := by decide +kernel
theorem dX11_shed_48 : decode cX11_shed 48 = .ok (.iadd, 1) := by decide +kernel
theorem dX11_shed_49 : decode cX11_shed 49 = .ok (.iaload, 1) := by decide +kernel
theorem dX11_shed_50 : decode cX11_shed 50 = .ok (.goto 4, 3) := by decide +kernel
theorem dX11_shed_53 : decode cX11_shed 53 = .ok (.iconst 0, 1) := by decide +kernel
theorem dX11_shed_54 : decode cX11_shed 54 = .ok (.iadd, 1) := by decide +kernel
theorem dX11_shed_55 : decode cX11_shed 55 = .ok (.istore_n 2, 1) := by decide +kernel
theorem dX11_shed_56 : decode cX11_shed 56 = .ok (.iinc 3 1, 3) := by decide +kernel
theorem dX11_shed_59 : decode cX11_shed 59 = .ok (.goto (-34), 3) := by decide +kernel
theorem dX11_shed_62 : decode cX11_shed 62 = .ok (.iload_n 2, 1) := by decide +kernel
theorem dX11_shed_63 : decode cX11_shed 63 = .ok (.ireturn, 1) := by decide +kernel
theorem dX11_feed_0 : decode cX11_feed 0 = .ok (.iload_n 2, 1) := by decide +kernel
theorem dX11_feed_1 : decode cX11_feed 1 = .ok (.i2l, 1) := by decide +kernel
theorem dX11_feed_2 : decode cX11_feed 2 = .ok (.lconst 1, 1) := by decide +kernel
theorem dX11_feed_3 : decode cX11_feed 3 = .ok (.ldc2_w 170, 3) := by decide +kernel
theorem dX11_feed_6 : decode cX11_feed 6 = .ok (.invokestatic 43, 3) := by decide +kernel
theorem dX11_feed_9 : decode cX11_feed 9 = .ok (.ifCond .ne 10, 3) := by decide +kernel
theorem dX11_feed_12 : decode cX11_feed 12 = .ok (.aload_n 0, 1) := by decide +kernel
theorem dX11_feed_13 : decode cX11_feed 13 = .ok (.ldc 40, 2) := by decide +kernel
theorem dX11_feed_15 : decode cX11_feed 15 = .ok (.invokevirtual 94, 3) := by decide +kernel
theorem dX11_feed_18 : decode cX11_feed 18 = .ok (.ireturn, 1) := by decide +kernel
theorem dX11_feed_19 : decode cX11_feed 19 = .ok (.aload_n 0, 1) := by decide +kernel
theorem dX11_feed_20 : decode cX11_feed 20 = .ok (.getfield 172, 3) := by decide +kernel
theorem dX11_feed_23 : decode cX11_feed 23 = .ok (.iload_n 2, 1) := by decide +kernel
theorem dX11_feed_24 : decode cX11_feed 24 = .ok (.iadd, 1) := by decide +kernel
theorem dX11_feed_25 : decode cX11_feed 25 = .ok (.bipush 100, 2) := by decide +kernel
theorem dX11_feed_27 : decode cX11_feed 27 = .ok (.if_icmp .le 10, 3) := by decide +kernel
theorem dX11_feed_30 : decode cX11_feed 30 = .ok (.aload_n 0, 1) := by decide +kernel
theorem dX11_feed_31 : decode cX11_feed 31 = .ok (.ldc 136, 2) := by decide +kernel
theorem dX11_feed_33 : decode cX11_feed 33 = .ok (.invokevirtual 94, 3) := by decide +kernel
theorem dX11_feed_36 : decode cX11_feed 36 = .ok (.ireturn, 1) := by decide +kernel
theorem dX11_feed_37 : decode cX11_feed 37 = .ok (.iload_n 2, 1) := by decide +kernel
theorem dX11_feed_38 : decode cX11_feed 38 = .ok (.iconst 1, 1) := by decide +kernel
theorem dX11_feed_39 : decode cX11_feed 39 = .ok (.isub, 1) := by decide +kernel
theorem dX11_feed_40 : decode cX11_feed 40 = .ok (.istore_n 3, 1) := by decide +kernel
theorem dX11_feed_41 : decode cX11_feed 41 = .ok (.iload_n 3, 1) := by decide +kernel
theorem dX11_feed_42 : decode cX11_feed 42 = .ok (.ifCond .lt 38, 3) := by decide +kernel
theorem dX11_feed_45 : decode cX11_feed 45 = .ok (.aload_n 0, 1) := by decide +kernel
theorem dX11_feed_46 : decode cX11_feed 46 = .ok (.getfield 19, 3) := by decide +kernel
theorem dX11_feed_49 : decode cX11_feed 49 = .ok (.aload_n 0, 1) := by decide +kernel
theorem dX11_feed_50 : decode cX11_feed 50 = .ok (.getfield 172, 3) := by decide +kernel
theorem dX11_feed_53 : decode cX11_feed 53 = .ok (.iload_n 1, 1) := by decide +kernel
theorem dX11_feed_54 : decode cX11_feed 54 = .ok (.bipush 8, 2) := by decide +kernel
theorem dX11_feed_56 : decode cX11_feed 56 = .ok (.iload_n 3, 1) := by decide +kernel
theorem dX11_feed_57 : decode cX11_feed 57 = .ok (.imul, 1) := by decide +kernel
theorem dX11_feed_58 : decode cX11_feed 58 = .ok (.ishr, 1) := by decide +kernel
theorem dX11_feed_59 : decode cX11_feed 59 = .ok (.sipush 255, 3) := by decide +kernel
theorem dX11_feed_62 : decode cX11_feed 62 = .ok (.iand, 1) := by decide +kernel
theorem dX11_feed_63 : decode cX11_feed 63 = .ok (.iastore, 1) := by decide +kernel
theorem dX11_feed_64 : decode cX11_feed 64 = .ok (.aload_n 0, 1) := by decide +kernel
theorem dX11_feed_65 : decode cX11_feed 65 = .ok (.dup, 1) := by decide +kernel
theorem dX11_feed_66 : decode cX11_feed 66 = .ok (.getfield 172, 3) := by decide +kernel
theorem dX11_feed_69 : decode cX11_feed 69 = .ok (.iconst 1, 1) := by decide +kernel
theorem dX11_feed_70 : decode cX11_feed 70 = .ok (.iadd, 1) := by decide +kernel
theorem dX11_feed_71 : decode cX11_feed 71 = .ok (.putfield 172, 3) := by decide +kernel
theorem dX11_feed_74 : decode cX11_feed 74 = .ok (.iinc 3 (-1), 3) := by decide +kernel
theorem dX11_feed_77 : decode cX11_feed 77 = .ok (.goto (-36), 3) := by decide +kernel
theorem dX11_feed_80 : decode cX11_feed 80 = .ok (.aload_n 0, 1) := by decide +kernel
theorem dX11_feed_81 : decode cX11_feed 81 = .ok (.getfield 172, 3) := by decide +kernel
theorem dX11_feed_84 : decode cX11_feed 84 = .ok (.ireturn, 1) := by decide +kernel
theorem dX11_wipe_0 : decode cX11_wipe 0 = .ok (.aload_n 0, 1) := by decide +kernel
theorem dX11_wipe_1 : decode cX11_wipe 1 = .ok (.getfield 172, 3) := by decide +kernel
theorem dX11_wipe_4 : decode cX11_wipe 4 = .ok (.istore_n 1, 1) := by decide +kernel
theorem dX11_wipe_5 : decode cX11_wipe 5 = .ok (.aload_n 0, 1) := by decide +kernel
theorem dX11_wipe_6 : decode cX11_wipe 6 = .ok (.iconst 0, 1) := by decide +kernel
theorem dX11_wipe_7 : decode cX11_wipe 7 = .ok (.putfield 172, 3) := by decide +kernel
theorem dX11_wipe_10 : decode cX11_wipe 10 = .ok (.iload_n 1, 1) := by decide +kernel
theorem dX11_wipe_11 : decode cX11_wipe 11 = .ok (.ireturn, 1) := by decide +kernel
theorem dX11_isByte_0 : decode cX11_isByte 0 = .ok (.iload_n 1, 1) := by decide +kernel
theorem dX11_isByte_1 : decode cX11_isByte 1 = .ok (.aload_n 0, 1) := by decide +kernel
theorem dX11_isByte_2 : decode cX11_isByte 2 = .ok (.getfield 172, 3) := by decide +kernel
theorem dX11_isByte_5 : decode cX11_isByte 5 = .ok (.if_icmp .ge 24, 3) := by decide +kernel
theorem dX11_isByte_8 : decode cX11_isByte 8 = .ok (.aload_n 0, 1) := by decide +kernel
theorem dX11_isByte_9 : decode cX11_isByte 9 = .ok (.getfield 19, 3) := by decide +kernel
theorem dX11_isByte_12 : decode cX11_isByte 12 = .ok (.iload_n 1, 1) := by decide +kernel
theorem dX11_isByte_13 : decode cX11_isByte 13 = .ok (.iaload, 1) := by decide +kernel
theorem dX11_isByte_14 : decode cX11_isByte 14 = .ok (.i2l, 1) := by decide +kernel
theorem dX11_isByte_15 : decode cX11_isByte 15 = .ok (.iload_n 2, 1) := by decide +kernel
theorem dX11_isByte_16 : decode cX11_isByte 16 = .ok (.i2l, 1) := by decide +kernel
theorem dX11_isByte_17 : decode cX11_isByte 17 = .ok (.iload_n 3, 1) := by decide +kernel
theorem dX11_isByte_18 : decode cX11_isByte 18 = .ok (.i2l, 1) := by decide +kernel
theorem dX11_isByte_19 : decode cX11_isByte 19 = .ok (.invokestatic 43, 3) := by decide +kernel
theorem dX11_isByte_22 : decode cX11_isByte 22 = .ok (.ifCond .eq 7, 3) := by decide +kernel
theorem dX11_isByte_25 : decode cX11_isByte 25 = .ok (.iconst 1, 1) := by decide +kernel
theorem dX11_isByte_26 : decode cX11_isByte 26 = .ok (.goto 4, 3) := by decide +kernel
theorem dX11_isByte_29 : decode cX11_isByte 29 = .ok (.iconst 0, 1) := by decide +kernel
theorem dX11_isByte_30 : decode cX11_isByte 30 = .ok (.ireturn, 1) := by decide +kernel
theorem dX11_token_0 : decode cX11_token 0 = .ok (.aload_n 0, 1) := by decide +kernel
theorem dX11_token_1 : decode cX11_token 1 = .ok (.aload_n 0, 1) := by decide +kernel
theorem dX11_token_2 : decode cX11_token 2 = .ok (.getfield 176, 3) := by decide +kernel
theorem dX11_token_5 : decode cX11_token 5 = .ok (.putfield 179, 3) := by decide +kernel
theorem dX11_token_8 : decode cX11_token 8 = .ok (.aload_n 0, 1) := by decide +kernel
theorem dX11_token_9 : decode cX11_token 9 = .ok (.aload_n 0, 1) := by decide +kernel
theorem dX11_token_10 : decode cX11_token 10 = .ok (.getfield 179, 3) := by decide +kernel
theorem dX11_token_13 : decode cX11_token 13 = .ok (.bipush 32, 2) := by decide +kernel
theorem dX11_token_15 : decode cX11_token 15 = .ok (.bipush 32, 2) := by decide +kernel
theorem dX11_token_17 : decode cX11_token 17 = .ok (.invokevirtual 182, 3) := by decide +kernel
theorem dX11_token_20 : decode cX11_token 20 = .ok (.ifCond .eq 16, 3) := by decide +kernel
theorem dX11_token_23 : decode cX11_token 23 = .ok (.aload_n 0, 1) := by decide +kernel
theorem dX11_token_24 : decode cX11_token 24 = .ok (.dup, 1) := by decide +kernel
theorem dX11_token_25 : decode cX11_token 25 = .ok (.getfield 179, 3) := by decide +kernel
theorem dX11_token_28 : decode cX11_token 28 = .ok (.iconst 1, 1) := by decide +kernel
theorem dX11_token_29 : decode cX11_token 29 = .ok (.iadd, 1) := by decide +kernel
theorem dX11_token_30 : decode cX11_token 30 = .ok (.putfield 179, 3) := by decide +kernel
theorem dX11_token_33 : decode cX11_token 33 = .ok (.goto (-25), 3) := by decide +kernel
theorem dX11_token_36 : decode cX11_token 36 = .ok (.aload_n 0, 1) := by decide +kernel
theorem dX11_token_37 : decode cX11_token 37 = .ok (.aload_n 0, 1) := by decide +kernel
theorem dX11_token_38 : decode cX11_token 38 = .ok (.getfield 179, 3) := by decide +kernel
theorem dX11_token_41 : decode cX11_token 41 = .ok (.putfield 176, 3) := by decide +kernel
theorem dX11_token_44 : decode cX11_token 44 = .ok (.aload_n 0, 1) := by decide +kernel
theorem dX11_token_45 : decode cX11_token 45 = .ok (.iconst 0, 1) := by decide +kernel
theorem dX11_token_46 : decode cX11_token 46 = .ok (.putfield 186, 3) := by decide +kernel
theorem dX11_token_49 : decode cX11_token 49 = .ok (.aload_n 0, 1) := by decide +kernel
theorem dX11_token_50 : decode cX11_token 50 = .ok (.aload_n 0, 1) := by decide +kernel
theorem dX11_token_51 : decode cX11_token 51 = .ok (.getfield 179, 3) := by decide +kernel
theorem dX11_token_54 : decode cX11_token 54 = .ok (.aload_n 0, 1) := by decide +kernel
theorem dX11_token_55 : decode cX11_token 55 = .ok (.getfield 172, 3) := by decide +kernel
theorem dX11_token_58 : decode cX11_token 58 = .ok (.if_icmp .ne 7, 3) := by decide +kernel
theorem dX11_token_61 : decode cX11_token 61 = .ok (.iconst 0, 1) := by decide +kernel
theorem dX11_token_62 : decode cX11_token 62 = .ok (.goto 42, 3) := by decide +kernel
theorem dX11_token_65 : decode cX11_token 65 = .ok (.aload_n 0, 1) := by decide +kernel
theorem dX11_token_66 : decode cX11_token 66 = .ok (.aload_n 0, 1) := by decide +kernel
theorem dX11_token_67 : decode cX11_token 67 = .ok (.getfield 179, 3) := by decide +kernel
theorem dX11_token_70 : decode cX11_token 70 = .ok (.bipush 97, 2) := by decide +kernel
theorem dX11_token_72 : decode cX11_token 72 = .ok (.bipush 122, 2) := by decide +kernel
theorem dX11_token_74 : decode cX11_token 74 = .ok (.invokevirtual 182, 3) := by decide +kernel
theorem dX11_token_77 : decode cX11_token 77 = .ok (.ifCond .eq 7, 3) := by decide +kernel
theorem dX11_token_80 : decode cX11_token 80 = .ok (.iconst 1, 1) := by decide +kernel
theorem dX11_token_81 : decode cX11_token 81 = .ok (.goto 23, 3) := by decide +kernel
theorem dX11_token_84 : decode cX11_token 84 = .ok (.aload_n 0, 1) := by decide +kernel
theorem dX11_token_85 : decode cX11_token 85 = .ok (.aload_n 0, 1) := by decide +kernel
theorem dX11_token_86 : decode cX11_token 86 = .ok (.getfield 179, 3) := by decide +kernel
theorem dX11_token_89 : decode cX11_token 89 = .ok (.bipush 48, 2) := by decide +kernel
theorem dX11_token_91 : decode cX11_token 91 = .ok (.bipush 57, 2) := by decide +kernel
theorem dX11_token_93 : decode cX11_token 93 = .ok (.invokevirtual 182, 3) := by decide +kernel
theorem dX11_token_96 : decode cX11_token 96 = .ok (.ifCond .eq 7, 3) := by decide +kernel
theorem dX11_token_99 : decode cX11_token 99 = .ok (.iconst 2, 1) := by decide +kernel
theorem dX11_token_100 : decode cX11_token 100 = .ok (.goto 4, 3) := by decide +kernel
theorem dX11_token_103 : decode cX11_token 103 = .ok (.iconst 3, 1) := by decide +kernel
theorem dX11_token_104 : decode cX11_token 104 = .ok (.putfield 189, 3) := by decide +kernel
theorem dX11_token_107 : decode cX11_token 107 = .ok (.aload_n 0, 1) := by decide +kernel
theorem dX11_token_108 : decode cX11_token 108 = .ok (.getfield 189, 3) := by decide +kernel
theorem dX11_token_111 : decode cX11_token 111 = .ok (.iconst 3, 1) := by decide +kernel
theorem dX11_token_112 : decode cX11_token 112 = .ok (.if_icmp .ne 13, 3) := by decide +kernel
theorem dX11_token_115 : decode cX11_token 115 = .ok (.aload_n 0, 1) := by decide +kernel
theorem dX11_token_116 : decode cX11_token 116 = .ok (.dup, 1) := by decide +kernel
theorem dX11_token_117 : decode cX11_token 117 = .ok (.getfield 176, 3) := by decide +kernel
theorem dX11_token_120 : decode cX11_token 120 = .ok (.iconst 1, 1) := by decide +kernel
theorem dX11_token_121 : decode cX11_token 121 = .ok (.iadd, 1) := by decide +kernel
theorem dX11_token_122 : decode cX11_token 122 = .ok (.putfield 176, 3) := by decide +kernel
theorem dX11_token_125 : decode cX11_token 125 = .ok (.aload_n 0, 1) := by decide +kernel
theorem dX11_token_126 : decode cX11_token 126 = .ok (.getfield 189, 3) := by decide +kernel
theorem dX11_token_129 : decode cX11_token 129 = .ok (.iconst 1, 1) := by decide +kernel
theorem dX11_token_130 : decode cX11_token 130 = .ok (.if_icmp .ne 31, 3) := by decide +kernel
theorem dX11_token_133 : decode cX11_token 133 = .ok (.aload_n 0, 1) := by decide +kernel
theorem dX11_token_134 : decode cX11_token 134 = .ok (.aload_n 0, 1) := by decide +kernel
theorem dX11_token_135 : decode cX11_token 135 = .ok (.getfield 176, 3) := by decide +kernel
theorem dX11_token_138 : decode cX11_token 138 = .ok (.bipush 97, 2) := by decide +kernel
theorem dX11_token_140 : decode cX11_token 140 = .ok (.bipush 122, 2) := by decide +kernel
theorem dX11_token_142 : decode cX11_token 142 = .ok (.invokevirtual 182, 3) := by decide +kernel
theorem dX11_token_145 : decode cX11_token 145 = .ok (.ifCond .eq 16, 3) := by decide +kernel
theorem dX11_token_148 : decode cX11_token 148 = .ok (.aload_n 0, 1) := by decide +kernel
theorem dX11_token_149 : decode cX11_token 149 = .ok (.dup, 1) := by decide +kernel
theorem dX11_token_150 : decode cX11_token 150 = .ok (.getfield 176, 3) := by decide +kernel
theorem dX11_token_153 : decode cX11_token 153 = .ok (.iconst 1, 1) := by decide +kernel
theorem dX11_token_154 : decode cX11_token 154 = .ok (.iadd, 1) := by decide +kernel
theorem dX11_token_155 : decode cX11_token 155 = .ok (.putfield 176, 3) := by decide +kernel
theorem dX11_token_158 : decode cX11_token 158 = .ok (.goto (-33), 3) := by decide +kernel
theorem dX11_token_161 : decode cX11_token 161 = .ok (.aload_n 0, 1) := by decide +kernel
theorem dX11_token_162 : decode cX11_token 162 = .ok (.getfield 189, 3) := by decide +kernel
theorem dX11_token_165 : decode cX11_token 165 = .ok (.iconst 2, 1) := by decide +kernel
theorem dX11_token_166 : decode cX11_token 166 = .ok (.if_icmp .ne 72, 3) := by decide +kernel
theorem dX11_token_169 : decode cX11_token 169 = .ok (.aload_n 0, 1) := by decide +kernel
theorem dX11_token_170 : decode cX11_token 170 = .ok (.aload_n 0, 1) := by decide +kernel
theorem dX11_token_171 : decode cX11_token 171 = .ok (.getfield 176, 3) := by decide +kernel
theorem dX11_token_174 : decode cX11_token 174 = .ok (.bipush 48, 2) := by decide +kernel
theorem dX11_token_176 : decode cX11_token 176 = .ok (.bipush 57, 2) := by decide +kernel
theorem dX11_token_178 : decode cX11_token 178 = .ok (.invokevirtual 182, 3) := by decide +kernel
theorem dX11_token_181 : decode cX11_token 181 = .ok (.ifCond .eq 57, 3) := by decide +kernel
theorem dX11_token_184 : decode cX11_token 184 = .ok (.aload_n 0, 1) := by decide +kernel
theorem dX11_token_185 : decode cX11_token 185 = .ok (.aload_n 0, 1) := by decide +kernel
theorem dX11_token_186 : decode cX11_token 186 = .ok (.getfield 186, 3) := by decide +kernel
theorem dX11_token_189 : decode cX11_token 189 = .ok (.sipush 999, 3) := by decide +kernel
theorem dX11_token_192 : decode cX11_token 192 = .ok (.if_icmp .le 10, 3) := by decide +kernel
theorem dX11_token_195 : decode cX11_token 195 = .ok (.aload_n 0, 1) := by decide +kernel
theorem dX11_token_196 : decode cX11_token 196 = .ok (.getfield 186, 3) := by decide +kernel
theorem dX11_token_199 : decode cX11_token 199 = .ok (.goto 23, 3) := by decide +kernel
theorem dX11_token_202 : decode cX11_token 202 = .ok (.bipush 10, 2) := by decide +kernel
theorem dX11_token_204 : decode cX11_token 204 = .ok (.aload_n 0, 1) := by decide +kernel
theorem dX11_token_205 : decode cX11_token 205 = .ok (.getfield 186, 3) := by decide +kernel
theorem dX11_token_208 : decode cX11_token 208 = .ok (.imul, 1) := by decide +kernel
theorem dX11_token_209 : decode cX11_token 209 = .ok (.aload_n 0, 1) := by decide +kernel
theorem dX11_token_210 : decode cX11_token 210 = .ok (.getfield 19, 3) := by decide +kernel
theorem dX11_token_213 : decode cX11_token 213 = .ok (.aload_n 0, 1) := by decide +kernel
theorem dX11_token_214 : decode cX11_token 214 = .ok (.getfield 176, 3) := by decide +kernel
theorem dX11_token_217 : decode cX11_token 217 = .ok (.iaload, 1) := by decide +kernel
theorem dX11_token_218 : decode cX11_token 218 = .ok (.iadd, 1) := by decide +kernel
theorem dX11_token_219 : decode cX11_token 219 = .ok (.bipush 48, 2) := by decide +kernel
theorem dX11_token_221 : decode cX11_token 221 = .ok (.isub, 1) := by decide +kernel
theorem dX11_token_222 : decode cX11_token 222 = .ok (.putfield 186, 3) := by decide +kernel
theorem dX11_token_225 : decode cX11_token 225 = .ok (.aload_n 0, 1) := by decide +kernel
theorem dX11_token_226 : decode cX11_token 226 = .ok (.dup, 1) := by decide +kernel
theorem dX11_token_227 : decode cX11_token 227 = .ok (.getfield 176, 3) := by decide +kernel
theorem dX11_token_230 : decode cX11_token 230 = .ok (.iconst 1, 1) := by decide +kernel
theorem dX11_token_231 : decode cX11_token 231 = .ok (.iadd, 1) := by decide +kernel
theorem dX11_token_232 : decode cX11_token 232 = .ok (.putfield 176, 3) := by decide +kernel
theorem dX11_token_235 : decode cX11_token 235 = .ok (.goto (-74), 3) := by decide +kernel
theorem dX11_token_238 : decode cX11_token 238 = .ok (.return_, 1) := by decide +kernel
theorem dX11_isWord_0 : decode cX11_isWord 0 = .ok (.aload_n 0, 1) := by decide +kernel
theorem dX11_isWord_1 : decode cX11_isWord 1 = .ok (.getfield 192, 3) := by decide +kernel
theorem dX11_isWord_4 : decode cX11_isWord 4 = .ok (.ifCond .ne 31, 3) := by decide +kernel
theorem dX11_isWord_7 : decode cX11_isWord 7 = .ok (.aload_n 0, 1) := by decide +kernel
theorem dX11_isWord_8 : decode cX11_isWord 8 = .ok (.getfield 189, 3) := by decide +kernel
theorem dX11_isWord_11 : decode cX11_isWord 11 = .ok (.iconst 1, 1) := by decide +kernel
theorem dX11_isWord_12 : decode cX11_isWord 12 = .ok (.if_icmp .ne 23, 3) := by decide +kernel
theorem dX11_isWord_15 : decode cX11_isWord 15 = .ok (.aload_n 0, 1) := by decide +kernel
theorem dX11_isWord_16 : decode cX11_isWord 16 = .ok (.getfield 176, 3) := by decide +kernel
theorem dX11_isWord_19 : decode cX11_isWord 19 = .ok (.aload_n 0, 1) := by decide +kernel
theorem dX11_isWord_20 : decode cX11_isWord 20 = .ok (.getfield 179, 3) := by decide +kernel
theorem dX11_isWord_23 : decode cX11_isWord 23 = .ok (.isub, 1) := by decide +kernel
theorem dX11_isWord_24 : decode cX11_isWord 24 = .ok (.aload_n 1, 1) := by decide +kernel
theorem dX11_isWord_25 : decode cX11_isWord 25 = .ok (.invokevirtual 195, 3) := by decide +kernel
theorem dX11_isWord_28 : decode cX11_isWord 28 = .ok (.if_icmp .ne 7, 3) := by decide +kernel
theorem dX11_isWord_31 : decode cX11_isWord 31 = .ok (.iconst 1, 1) := by decide +kernel
theorem dX11_isWord_32 : decode cX11_isWord 32 = .ok (.goto 4, 3) := by decide +kernel
theorem dX11_isWord_35 : decode cX11_isWord 35 = .ok (.iconst 0, 1) := by decide +kernel
theorem dX11_isWord_36 : decode cX11_isWord 36 = .ok (.istore_n 2, 1) := by decide +kernel
theorem dX11_isWord_37 : decode cX11_isWord 37 = .ok (.iconst 0, 1) := by decide +kernel
theorem dX11_isWord_38 : decode cX11_isWord 38 = .ok (.istore_n 3, 1) := by decide +kernel
theorem dX11_isWord_39 : decode cX11_isWord 39 = .ok (.iload_n 2, 1) := by decide +kernel
theorem dX11_isWord_40 : decode cX11_isWord 40 = .ok (.ifCond .eq 42, 3) := by decide +kernel
theorem dX11_isWord_43 : decode cX11_isWord 43 = .ok (.iload_n 3, 1) := by decide +kernel
theorem dX11_isWord_44 : decode cX11_isWord 44 = .ok (.aload_n 1, 1) := by decide +kernel
theorem dX11_isWord_45 : decode cX11_isWord 45 = .ok (.invokevirtual 195, 3) := by decide +kernel
theorem dX11_isWord_48 : decode cX11_isWord 48 = .ok (.if_icmp .ge 34, 3) := by decide +kernel
theorem dX11_isWord_51 : decode cX11_isWord 51 = .ok (.aload_n 0, 1) := by decide +kernel
theorem dX11_isWord_52 : decode cX11_isWord 52 = .ok (.getfield 19, 3) := by decide +kernel
theorem dX11_isWord_55 : decode cX11_isWord 55 = .ok (.aload_n 0, 1) := by decide +kernel
theorem dX11_isWord_56 : decode cX11_isWord 56 = .ok (.getfield 179, 3) := by decide +kernel
theorem dX11_isWord_59 : decode cX11_isWord 59 = .ok (.iload_n 3, 1) := by decide +kernel
theorem dX11_isWord_60 : decode cX11_isWord 60 = .ok (.iadd, 1) := by decide +kernel
theorem dX11_isWord_61 : decode cX11_isWord 61 = .ok (.iaload, 1) := by decide +kernel
theorem dX11_isWord_62 : decode cX11_isWord 62 = .ok (.aload_n 1, 1) := by decide +kernel
theorem dX11_isWord_63 : decode cX11_isWord 63 = .ok (.iload_n 3, 1) := by decide +kernel
theorem dX11_isWord_64 : decode cX11_isWord 64 = .ok (.invokevirtual 200, 3) := by decide +kernel
theorem dX11_isWord_67 : decode cX11_isWord 67 = .ok (.if_icmp .ne 7, 3) := by decide +kernel
theorem dX11_isWord_70 : decode cX11_isWord 70 = .ok (.iconst 1, 1) := by decide +kernel
theorem dX11_isWord_71 : decode cX11_isWord 71 = .ok (.goto 4, 3) := by decide +kernel
theorem dX11_isWord_74 : decode cX11_isWord 74 = .ok (.iconst 0, 1) := by decide +kernel
theorem dX11_isWord_75 : decode cX11_isWord 75 = .ok (.istore_n 2, 1) := by decide +kernel
theorem dX11_isWord_76 : decode cX11_isWord 76 = .ok (.iinc 3 1, 3) := by decide +kernel
theorem dX11_isWord_79 : decode cX11_isWord 79 = .ok (.goto (-40), 3) := by decide +kernel
theorem dX11_isWord_82 : decode cX11_isWord 82 = .ok (.iload_n 2, 1) := by decide +kernel
theorem dX11_isWord_83 : decode cX11_isWord 83 = .ok (.ireturn, 1) := by decide +kernel
theorem dX11_isSign_0 : decode cX11_isSign 0 = .ok (.aload_n 0, 1) := by decide +kernel
theorem dX11_isSign_1 : decode cX11_isSign 1 = .ok (.getfield 192, 3) := by decide +kernel
theorem dX11_isSign_4 : decode cX11_isSign 4 = .ok (.ifCond .ne 28, 3) := by decide +kernel
theorem dX11_isSign_7 : decode cX11_isSign 7 = .ok (.aload_n 0, 1) := by decide +kernel
theorem dX11_isSign_8 : decode cX11_isSign 8 = .ok (.getfield 189, 3) := by decide +kernel
theorem dX11_isSign_11 : decode cX11_isSign 11 = .ok (.iconst 3, 1) := by decide +kernel
theorem dX11_isSign_12 : decode cX11_isSign 12 = .ok (.if_icmp .ne 20, 3) := by decide +kernel
theorem dX11_isSign_15 : decode cX11_isSign 15 = .ok (.aload_n 0, 1) := by decide +kernel
theorem dX11_isSign_16 : decode cX11_isSign 16 = .ok (.getfield 19, 3) := by decide +kernel
theorem dX11_isSign_19 : decode cX11_isSign 19 = .ok (.aload_n 0, 1) := by decide +kernel
theorem dX11_isSign_20 : decode cX11_isSign 20 = .ok (.getfield 179, 3) := by decide +kernel
theorem dX11_isSign_23 : decode cX11_isSign 23 = .ok (.iaload, 1) := by decide +kernel
theorem dX11_isSign_24 : decode cX11_isSign 24 = .ok (.iload_n 1, 1) := by decide +kernel
theorem dX11_isSign_25 : decode cX11_isSign 25 = .ok (.if_icmp .ne 7, 3) := by decide +kernel
theorem dX11_isSign_28 : decode cX11_isSign 28 = .ok (.iconst 1, 1) := by decide +kernel
theorem dX11_isSign_29 : decode cX11_isSign 29 = .ok (.goto 4, 3) := by decide +kernel
theorem dX11_isSign_32 : decode cX11_isSign 32 = .ok (.iconst 0, 1) := by decide +kernel
theorem dX11_isSign_33 : decode cX11_isSign 33 = .ok (.ireturn, 1) := by decide +kernel
theorem dX11_number_0 : decode cX11_number 0 = .ok (.aload_n 0, 1) := by decide +kernel
theorem dX11_number_1 : decode cX11_number 1 = .ok (.aload_n 0, 1) := by decide +kernel
theorem dX11_number_2 : decode cX11_number 2 = .ok (.getfield 192, 3) := by decide +kernel
theorem dX11_number_5 : decode cX11_number 5 = .ok (.ifCond .ne 26, 3) := by decide +kernel
theorem dX11_number_8 : decode cX11_number 8 = .ok (.aload_n 0, 1) := by decide +kernel
theorem dX11_number_9 : decode cX11_number 9 = .ok (.getfield 189, 3) := by decide +kernel
theorem dX11_number_12 : decode cX11_number 12 = .ok (.iconst 2, 1) := by decide +kernel
theorem dX11_number_13 : decode cX11_number 13 = .ok (.if_icmp .ne 18, 3) := by decide +kernel
theorem dX11_number_16 : decode cX11_number 16 = .ok (.aload_n 0, 1) := by decide +kernel
theorem dX11_number_17 : decode cX11_number 17 = .ok (.getfield 186, 3) := by decide +kernel
theorem dX11_number_20 : decode cX11_number 20 = .ok (.i2l, 1) := by decide +kernel
theorem dX11_number_21 : decode cX11_number 21 = .ok (.iload_n 1, 1) := by decide +kernel
theorem dX11_number_22 : decode cX11_number 22 = .ok (.i2l, 1) := by decide +kernel
theorem dX11_number_23 : decode cX11_number 23 = .ok (.iload_n 2, 1) := by decide +kernel
theorem dX11_number_24 : decode cX11_number 24 = .ok (.i2l, 1) := by decide +kernel
theorem dX11_number_25 : decode cX11_number 25 = .ok (.invokestatic 43, 3) := by decide +kernel
theorem dX11_number_28 : decode cX11_number 28 = .ok (.ifCond .ne 7, 3) := by decide +kernel
theorem dX11_number_31 : decode cX11_number 31 = .ok (.iconst 1, 1) := by decide +kernel
theorem dX11_number_32 : decode cX11_number 32 = .ok (.goto 4, 3) := by decide +kernel
theorem dX11_number_35 : decode cX11_number 35 = .ok (.iconst 0, 1) := by decide +kernel
theorem dX11_number_36 : decode cX11_number 36 = .ok (.putfield 192, 3) := by decide +kernel
theorem dX11_number_39 : decode cX11_number 39 = .ok (.aload_n 0, 1) := by decide +kernel
theorem dX11_number_40 : decode cX11_number 40 = .ok (.getfield 186, 3) := by decide +kernel
theorem dX11_number_43 : decode cX11_number 43 = .ok (.istore_n 3, 1) := by decide +kernel
theorem dX11_number_44 : decode cX11_number 44 = .ok (.aload_n 0, 1) := by decide +kernel
theorem dX11_number_45 : decode cX11_number 45 = .ok (.getfield 192, 3) := by decide +kernel
theorem dX11_number_48 : decode cX11_number 48 = .ok (.ifCond .ne 7, 3) := by decide +kernel
theorem dX11_number_51 : decode cX11_number 51 = .ok (.aload_n 0, 1) := by decide +kernel
theorem dX11_number_52 : decode cX11_number 52 = .ok (.invokevirtual 204, 3) := by decide +kernel
theorem dX11_number_55 : decode cX11_number 55 = .ok (.iload_n 3, 1) := by decide +kernel
theorem dX11_number_56 : decode cX11_number 56 = .ok (.ireturn, 1) := by decide +kernel
theorem dX11_deedHere_0 : decode cX11_deedHere 0 = .ok (.aload_n 0, 1) := by decide +kernel
theorem dX11_deedHere_1 : decode cX11_deedHere 1 = .ok (.ldc 207, 2) := by decide +kernel
theorem dX11_deedHere_3 : decode cX11_deedHere 3 = .ok (.invokevirtual 209, 3) := by decide +kernel
theorem dX11_deedHere_6 : decode cX11_deedHere 6 = .ok (.ifCond .eq 5, 3) := by decide +kernel
theorem dX11_deedHere_9 : decode cX11_deedHere 9 = .ok (.iconst 0, 1) := by decide +kernel
theorem dX11_deedHere_10 : decode cX11_deedHere 10 = .ok (.ireturn, 1) := by decide +kernel
theorem dX11_deedHere_11 : decode cX11_deedHere 11 = .ok (.aload_n 0, 1) := by decide +kernel
theorem dX11_deedHere_12 : decode cX11_deedHere 12 = .ok (.ldc 213, 2) := by decide +kernel
theorem dX11_deedHere_14 : decode cX11_deedHere 14 = .ok (.invokevirtual 209, 3) := by decide +kernel
theorem dX11_deedHere_17 : decode cX11_deedHere 17 = .ok (.ifCond .eq 5, 3) := by decide +kernel
theorem dX11_deedHere_20 : decode cX11_deedHere 20 = .ok (.iconst 1, 1) := by decide +kernel
theorem dX11_deedHere_21 : decode cX11_deedHere 21 = .ok (.ireturn, 1) := by decide +kernel
theorem dX11_deedHere_22 : decode cX11_deedHere 22 = .ok (.aload_n 0, 1) := by decide +kernel
theorem dX11_deedHere_23 : decode cX11_deedHere 23 = .ok (.ldc 215, 2) := by decide +kernel
theorem dX11_deedHere_25 : decode cX11_deedHere 25 = .ok (.invokevirtual 209, 3) := by decide +kernel
theorem dX11_deedHere_28 : decode cX11_deedHere 28 = .ok (.ifCond .eq 5, 3) := by decide +kernel
theorem dX11_deedHere_31 : decode cX11_deedHere 31 = .ok (.iconst 2, 1) := by decide +kernel
theorem dX11_deedHere_32 : decode cX11_deedHere 32 = .ok (.ireturn, 1) := by decide +kernel
theorem dX11_deedHere_33 : decode cX11_deedHere 33 = .ok (.aload_n 0, 1) := by decide +kernel
theorem dX11_deedHere_34 : decode cX11_deedHere 34 = .ok (.ldc 217, 2) := by decide +kernel
theorem dX11_deedHere_36 : decode cX11_deedHere 36 = .ok (.invokevirtual 209, 3) := by decide +kernel
theorem dX11_deedHere_39 : decode cX11_deedHere 39 = .ok (.ifCond .eq 5, 3) := by decide +kernel
theorem dX11_deedHere_42 : decode cX11_deedHere 42 = .ok (.iconst 3, 1) := by decide +kernel
theorem dX11_deedHere_43 : decode cX11_deedHere 43 = .ok (.ireturn, 1) := by decide +kernel
theorem dX11_deedHere_44 : decode cX11_deedHere 44 = .ok (.aload_n 0, 1) := by decide +kernel
theorem dX11_deedHere_45 : decode cX11_deedHere 45 = .ok (.ldc 219, 2) := by decide +kernel
theorem dX11_deedHere_47 : decode cX11_deedHere 47 = .ok (.invokevirtual 209, 3) := by decide +kernel
theorem dX11_deedHere_50 : decode cX11_deedHere 50 = .ok (.ifCond .eq 5, 3) := by decide +kernel
theorem dX11_deedHere_53 : decode cX11_deedHere 53 = .ok (.iconst 4, 1) := by decide +kernel
theorem dX11_deedHere_54 : decode cX11_deedHere 54 = .ok (.ireturn, 1) := by decide +kernel
theorem dX11_deedHere_55 : decode cX11_deedHere 55 = .ok (.aload_n 0, 1) := by decide +kernel
theorem dX11_deedHere_56 : decode cX11_deedHere 56 = .ok (.ldc 221, 2) := by decide +kernel
theorem dX11_deedHere_58 : decode cX11_deedHere 58 = .ok (.invokevirtual 209, 3) := by decide +kernel
theorem dX11_deedHere_61 : decode cX11_deedHere 61 = .ok (.ifCond .eq 5, 3) := by decide +kernel
theorem dX11_deedHere_64 : decode cX11_deedHere 64 = .ok (.iconst 5, 1) := by decide +kernel
theorem dX11_deedHere_65 : decode cX11_deedHere 65 = .ok (.ireturn, 1) := by decide +kernel
theorem dX11_deedHere_66 : decode cX11_deedHere 66 = .ok (.aload_n 0, 1) := by decide +kernel
theorem dX11_deedHere_67 : decode cX11_deedHere 67 = .ok (.ldc 223, 2) := by decide +kernel
theorem dX11_deedHere_69 : decode cX11_deedHere 69 = .ok (.invokevirtual 209, 3) := by decide +kernel
theorem dX11_deedHere_72 : decode cX11_deedHere 72 = .ok (.ifCond .eq 6, 3) := by decide +kernel
theorem dX11_deedHere_75 : decode cX11_deedHere 75 = .ok (.bipush 6, 2) := by decide +kernel
theorem dX11_deedHere_77 : decode cX11_deedHere 77 = .ok (.ireturn, 1) := by decide +kernel
theorem dX11_deedHere_78 : decode cX11_deedHere 78 = .ok (.aload_n 0, 1) := by decide +kernel
theorem dX11_deedHere_79 : decode cX11_deedHere 79 = .ok (.ldc 225, 2) := by decide +kernel
theorem dX11_deedHere_81 : decode cX11_deedHere 81 = .ok (.invokevirtual 209, 3) := by decide +kernel
theorem dX11_deedHere_84 : decode cX11_deedHere 84 = .ok (.ifCond .eq 6, 3) := by decide +kernel
theorem dX11_deedHere_87 : decode cX11_deedHere 87 = .ok (.bipush 7, 2) := by decide +kernel
theorem dX11_deedHere_89 : decode cX11_deedHere 89 = .ok (.ireturn, 1) := by decide +kernel
theorem dX11_deedHere_90 : decode cX11_deedHere 90 = .ok (.aload_n 0, 1) := by decide +kernel
theorem dX11_deedHere_91 : decode cX11_deedHere 91 = .ok (.ldc 227, 2) := by decide +kernel
theorem dX11_deedHere_93 : decode cX11_deedHere 93 = .ok (.invokevirtual 209, 3) := by decide +kernel
theorem dX11_deedHere_96 : decode cX11_deedHere 96 = .ok (.ifCond .eq 6, 3) := by decide +kernel
theorem dX11_deedHere_99 : decode cX11_deedHere 99 = .ok (.bipush 8, 2) := by decide +kernel
theorem dX11_deedHere_101 : decode cX11_deedHere 101 = .ok (.ireturn, 1) := by decide +kernel
theorem dX11_deedHere_102 : decode cX11_deedHere 102 = .ok (.aload_n 0, 1) := by decide +kernel
theorem dX11_deedHere_103 : decode cX11_deedHere 103 = .ok (.ldc 229, 2) := by decide +kernel
theorem dX11_deedHere_105 : decode cX11_deedHere 105 = .ok (.invokevirtual 209, 3) := by decide +kernel
theorem dX11_deedHere_108 : decode cX11_deedHere 108 = .ok (.ifCond .eq 6, 3) := by decide +kernel
theorem dX11_deedHere_111 : decode cX11_deedHere 111 = .ok (.bipush 9, 2) := by decide +kernel
theorem dX11_deedHere_113 : decode cX11_deedHere 113 = .ok (.ireturn, 1) := by decide +kernel
theorem dX11_deedHere_114 : decode cX11_deedHere 114 = .ok (.aload_n 0, 1) := by decide +kernel
theorem dX11_deedHere_115 : decode cX11_deedHere 115 = .ok (.ldc 231, 2) := by decide +kernel
theorem dX11_deedHere_117 : decode cX11_deedHere 117 = .ok (.invokevirtual 209, 3) := by decide +kernel
theorem dX11_deedHere_120 : decode cX11_deedHere 120 = .ok (.ifCond .eq 6, 3) := by decide +kernel
theorem dX11_deedHere_123 : decode cX11_deedHere 123 = .ok (.bipush 10, 2) := by decide +kernel
theorem dX11_deedHere_125 : decode cX11_deedHere 125 = .ok (.ireturn, 1) := by decide +kernel
theorem dX11_deedHere_126 : decode cX11_deedHere 126 = .ok (.aload_n 0, 1) := by decide +kernel
theorem dX11_deedHere_127 : decode cX11_deedHere 127 = .ok (.ldc 233, 2) := by decide +kernel
theorem dX11_deedHere_129 : decode cX11_deedHere 129 = .ok (.invokevirtual 209, 3) := by decide +kernel
theorem dX11_deedHere_132 : decode cX11_deedHere 132 = .ok (.ifCond .eq 8, 3) := by decide +kernel
theorem dX11_deedHere_135 : decode cX11_deedHere 135 = .ok (.bipush 11, 2) := by decide +kernel
theorem dX11_deedHere_137 : decode cX11_deedHere 137 = .ok (.goto 18, 3) := by decide +kernel
theorem dX11_deedHere_140 : decode cX11_deedHere 140 = .ok (.aload_n 0, 1) := by decide +kernel
theorem dX11_deedHere_141 : decode cX11_deedHere 141 = .ok (.ldc 235, 2) := by decide +kernel
theorem dX11_deedHere_143 : decode cX11_deedHere 143 = .ok (.invokevirtual 209, 3) := by decide +kernel
theorem dX11_deedHere_146 : decode cX11_deedHere 146 = .ok (.ifCond .eq 8, 3) := by decide +kernel
theorem dX11_deedHere_149 : decode cX11_deedHere 149 = .ok (.bipush 12, 2) := by decide +kernel
theorem dX11_deedHere_151 : decode cX11_deedHere 151 = .ok (.goto 4, 3) := by decide +kernel
theorem dX11_deedHere_154 : decode cX11_deedHere 154 = .ok (.iconst (-1), 1) := by decide +kernel
theorem dX11_deedHere_155 : decode cX11_deedHere 155 = .ok (.ireturn, 1) := by decide +kernel
theorem dX11_wind_0 : decode cX11_wind 0 = .ok (.aload_n 0, 1) := by decide +kernel
theorem dX11_wind_1 : decode cX11_wind 1 = .ok (.bipush 45, 2) := by decide +kernel
theorem dX11_wind_3 : decode cX11_wind 3 = .ok (.invokevirtual 237, 3) := by decide +kernel
theorem dX11_wind_6 : decode cX11_wind 6 = .ok (.istore_n 1, 1) := by decide +kernel
theorem dX11_wind_7 : decode cX11_wind 7 = .ok (.iload_n 1, 1) := by decide +kernel
theorem dX11_wind_8 : decode cX11_wind 8 = .ok (.ifCond .eq 7, 3) := by decide +kernel
theorem dX11_wind_11 : decode cX11_wind 11 = .ok (.aload_n 0, 1) := by decide +kernel
theorem dX11_wind_12 : decode cX11_wind 12 = .ok (.invokevirtual 204, 3) := by decide +kernel
theorem dX11_wind_15 : decode cX11_wind 15 = .ok (.aload_n 0, 1) := by decide +kernel
theorem dX11_wind_16 : decode cX11_wind 16 = .ok (.iconst 0, 1) := by decide +kernel
theorem dX11_wind_17 : decode cX11_wind 17 = .ok (.bipush 20, 2) := by decide +kernel
theorem dX11_wind_19 : decode cX11_wind 19 = .ok (.invokevirtual 240, 3) := by decide +kernel
theorem dX11_wind_22 : decode cX11_wind 22 = .ok (.istore_n 2, 1) := by decide +kernel
theorem dX11_wind_23 : decode cX11_wind 23 = .ok (.iload_n 1, 1) := by decide +kernel
theorem dX11_wind_24 : decode cX11_wind 24 = .ok (.ifCond .eq 8, 3) := by decide +kernel
theorem dX11_wind_27 : decode cX11_wind 27 = .ok (.iload_n 2, 1) := by decide +kernel
theorem dX11_wind_28 : decode cX11_wind 28 = .ok (.ineg, 1) := by decide +kernel
theorem dX11_wind_29 : decode cX11_wind 29 = .ok (.goto 4, 3) := by decide +kernel
theorem dX11_wind_32 : decode cX11_wind 32 = .ok (.iload_n 2, 1) := by decide +kernel
theorem dX11_wind_33 : decode cX11_wind 33 = .ok (.ireturn, 1) := by decide +kernel
theorem dX11_deed_0 : decode cX11_deed 0 = .ok (.aload_n 0, 1) := by decide +kernel
theorem dX11_deed_1 : decode cX11_deed 1 = .ok (.invokevirtual 242, 3) := by decide +kernel
theorem dX11_deed_4 : decode cX11_deed 4 = .ok (.istore_n 2, 1) := by decide +kernel
theorem dX11_deed_5 : decode cX11_deed 5 = .ok (.aload_n 0, 1) := by decide +kernel
theorem dX11_deed_6 : decode cX11_deed 6 = .ok (.aload_n 0, 1) := by decide +kernel
theorem dX11_deed_7 : decode cX11_deed 7 = .ok (.getfield 192, 3) := by decide +kernel
theorem dX11_deed_10 : decode cX11_deed 10 = .ok (.ifCond .ne 7, 3) := by decide +kernel
theorem dX11_deed_13 : decode cX11_deed 13 = .ok (.iload_n 2, 1) := by decide +kernel
theorem dX11_deed_14 : decode cX11_deed 14 = .ok (.ifCond .ge 7, 3) := by decide +kernel
theorem dX11_deed_17 : decode cX11_deed 17 = .ok (.iconst 1, 1) := by decide +kernel
theorem dX11_deed_18 : decode cX11_deed 18 = .ok (.goto 4, 3) := by decide +kernel
theorem dX11_deed_21 : decode cX11_deed 21 = .ok (.iconst 0, 1) := by decide +kernel
theorem dX11_deed_22 : decode cX11_deed 22 = .ok (.putfield 192, 3) := by decide +kernel
theorem dX11_deed_25 : decode cX11_deed 25 = .ok (.aload_n 0, 1) := by decide +kernel
theorem dX11_deed_26 : decode cX11_deed 26 = .ok (.getfield 192, 3) := by decide +kernel
theorem dX11_deed_29 : decode cX11_deed 29 = .ok (.ifCond .eq 4, 3) := by decide +kernel
theorem dX11_deed_32 : decode cX11_deed 32 = .ok (.return_, 1) := by decide +kernel
theorem dX11_deed_33 : decode cX11_deed 33 = .ok (.aload_n 0, 1) := by decide +kernel
theorem dX11_deed_34 : decode cX11_deed 34 = .ok (.invokevirtual 204, 3) := by decide +kernel
theorem dX11_deed_37 : decode cX11_deed 37 = .ok (.aload_n 0, 1) := by decide +kernel
theorem dX11_deed_38 : decode cX11_deed 38 = .ok (.getfield 9, 3) := by decide +kernel
theorem dX11_deed_41 : decode cX11_deed 41 = .ok (.iload_n 1, 1) := by decide +kernel
theorem dX11_deed_42 : decode cX11_deed 42 = .ok (.iload_n 2, 1) := by decide +kernel
theorem dX11_deed_43 : decode cX11_deed 43 = .ok (.iastore, 1) := by decide +kernel
theorem dX11_deed_44 : decode cX11_deed 44 = .ok (.iload_n 2, 1) := by decide +kernel
theorem dX11_deed_45 : decode cX11_deed 45 = .ok (.bipush 8, 2) := by decide +kernel
theorem dX11_deed_47 : decode cX11_deed 47 = .ok (.if_icmp .ge 73, 3) := by decide +kernel
theorem dX11_deed_50 : decode cX11_deed 50 = .ok (.aload_n 0, 1) := by decide +kernel
theorem dX11_deed_51 : decode cX11_deed 51 = .ok (.getfield 9, 3) := by decide +kernel
theorem dX11_deed_54 : decode cX11_deed 54 = .ok (.iload_n 1, 1) := by decide +kernel
theorem dX11_deed_55 : decode cX11_deed 55 = .ok (.iconst 1, 1) := by decide +kernel
theorem dX11_deed_56 : decode cX11_deed 56 = .ok (.iadd, 1) := by decide +kernel
theorem dX11_deed_57 : decode cX11_deed 57 = .ok (.aload_n 0, 1) := by decide +kernel
theorem dX11_deed_58 : decode cX11_deed 58 = .ok (.iconst 1, 1) := by decide +kernel
theorem dX11_deed_59 : decode cX11_deed 59 = .ok (.bipush 99, 2) := by decide +kernel
theorem dX11_deed_61 : decode cX11_deed 61 = .ok (.invokevirtual 240, 3) := by decide +kernel
theorem dX11_deed_64 : decode cX11_deed 64 = .ok (.iastore, 1) := by decide +kernel
theorem dX11_deed_65 : decode cX11_deed 65 = .ok (.aload_n 0, 1) := by decide +kernel
theorem dX11_deed_66 : decode cX11_deed 66 = .ok (.aload_n 0, 1) := by decide +kernel
theorem dX11_deed_67 : decode cX11_deed 67 = .ok (.getfield 192, 3) := by decide +kernel
theorem dX11_deed_70 : decode cX11_deed 70 = .ok (.ifCond .ne 12, 3) := by decide +kernel
theorem dX11_deed_73 : decode cX11_deed 73 = .ok (.aload_n 0, 1) := by decide +kernel
theorem dX11_deed_74 : decode cX11_deed 74 = .ok (.ldc 245, 2) := by decide +kernel
theorem dX11_deed_76 : decode cX11_deed 76 = .ok (.invokevirtual 209, 3) := by decide +kernel
theorem dX11_deed_79 : decode cX11_deed 79 = .ok (.ifCond .ne 7, 3) := by decide +kernel
theorem dX11_deed_82 : decode cX11_deed 82 = .ok (.iconst 1, 1) := by decide +kernel
theorem dX11_deed_83 : decode cX11_deed 83 = .ok (.goto 4, 3) := by decide +kernel
theorem dX11_deed_86 : decode cX11_deed 86 = .ok (.iconst 0, 1) := by decide +kernel
theorem dX11_deed_87 : decode cX11_deed 87 = .ok (.putfield 192, 3) := by decide +kernel
theorem dX11_deed_90 : decode cX11_deed 90 = .ok (.aload_n 0, 1) := by decide +kernel
theorem dX11_deed_91 : decode cX11_deed 91 = .ok (.getfield 192, 3) := by decide +kernel
theorem dX11_deed_94 : decode cX11_deed 94 = .ok (.ifCond .eq 4, 3) := by decide +kernel
theorem dX11_deed_97 : decode cX11_deed 97 = .ok (.return_, 1) := by decide +kernel
theorem dX11_deed_98 : decode cX11_deed 98 = .ok (.aload_n 0, 1) := by decide +kernel
theorem dX11_deed_99 : decode cX11_deed 99 = .ok (.invokevirtual 204, 3) := by decide +kernel
theorem dX11_deed_102 : decode cX11_deed 102 = .ok (.aload_n 0, 1) := by decide +kernel
theorem dX11_deed_103 : decode cX11_deed 103 = .ok (.getfield 9, 3) := by decide +kernel
theorem dX11_deed_106 : decode cX11_deed 106 = .ok (.iload_n 1, 1) := by decide +kernel
theorem dX11_deed_107 : decode cX11_deed 107 = .ok (.iconst 2, 1) := by decide +kernel
theorem dX11_deed_108 : decode cX11_deed 108 = .ok (.iadd, 1) := by decide +kernel
theorem dX11_deed_109 : decode cX11_deed 109 = .ok (.aload_n 0, 1) := by decide +kernel
theorem dX11_deed_110 : decode cX11_deed 110 = .ok (.iconst 0, 1) := by decide +kernel
theorem dX11_deed_111 : decode cX11_deed 111 = .ok (.bipush 11, 2) := by decide +kernel
theorem dX11_deed_113 : decode cX11_deed 113 = .ok (.invokevirtual 240, 3) := by decide +kernel
theorem dX11_deed_116 : decode cX11_deed 116 = .ok (.iastore, 1) := by decide +kernel
theorem dX11_deed_117 : decode cX11_deed 117 = .ok (.goto 71, 3) := by decide +kernel
theorem dX11_deed_120 : decode cX11_deed 120 = .ok (.iload_n 2, 1) := by decide +kernel
theorem dX11_deed_121 : decode cX11_deed 121 = .ok (.bipush 10, 2) := by decide +kernel
theorem dX11_deed_123 : decode cX11_deed 123 = .ok (.if_icmp .ne 18, 3) := by decide +kernel
theorem dX11_deed_126 : decode cX11_deed 126 = .ok (.aload_n 0, 1) := by decide +kernel
theorem dX11_deed_127 : decode cX11_deed 127 = .ok (.getfield 9, 3) := by decide +kernel
theorem dX11_deed_130 : decode cX11_deed 130 = .ok (.iload_n 1, 1) := by decide +kernel
theorem dX11_deed_131 : decode cX11_deed 131 = .ok (.iconst 1, 1) := by decide +kernel
theorem dX11_deed_132 : decode cX11_deed 132 = .ok (.iadd, 1) := by decide +kernel
theorem dX11_deed_133 : decode cX11_deed 133 = .ok (.aload_n 0, 1) := by decide +kernel
theorem dX11_deed_134 : decode cX11_deed 134 = .ok (.invokevirtual 247, 3) := by decide +kernel
theorem dX11_deed_137 : decode cX11_deed 137 = .ok (.iastore, 1) := by decide +kernel
theorem dX11_deed_138 : decode cX11_deed 138 = .ok (.goto 50, 3) := by decide +kernel
theorem dX11_deed_141 : decode cX11_deed 141 = .ok (.aload_n 0, 1) := by decide +kernel
theorem dX11_deed_142 : decode cX11_deed 142 = .ok (.getfield 9, 3) := by decide +kernel
theorem dX11_deed_145 : decode cX11_deed 145 = .ok (.iload_n 1, 1) := by decide +kernel
theorem dX11_deed_146 : decode cX11_deed 146 = .ok (.iconst 1, 1) := by decide +kernel
theorem dX11_deed_147 : decode cX11_deed 147 = .ok (.iadd, 1) := by decide +kernel
theorem dX11_deed_148 : decode cX11_deed 148 = .ok (.aload_n 0, 1) := by decide +kernel
theorem dX11_deed_149 : decode cX11_deed 149 = .ok (.iload_n 2, 1) := by decide +kernel
theorem dX11_deed_150 : decode cX11_deed 150 = .ok (.bipush 8, 2) := by decide +kernel
theorem dX11_deed_152 : decode cX11_deed 152 = .ok (.if_icmp .ne 7, 3) := by decide +kernel
theorem dX11_deed_155 : decode cX11_deed 155 = .ok (.iconst 1, 1) := by decide +kernel
theorem dX11_deed_156 : decode cX11_deed 156 = .ok (.goto 4, 3) := by decide +kernel
theorem dX11_deed_159 : decode cX11_deed 159 = .ok (.iconst 0, 1) := by decide +kernel
theorem dX11_deed_160 : decode cX11_deed 160 = .ok (.iload_n 2, 1) := by decide +kernel
theorem dX11_deed_161 : decode cX11_deed 161 = .ok (.bipush 8, 2) := by decide +kernel
theorem dX11_deed_163 : decode cX11_deed 163 = .ok (.if_icmp .ne 8, 3) := by decide +kernel
theorem dX11_deed_166 : decode cX11_deed 166 = .ok (.bipush 50, 2) := by decide +kernel
theorem dX11_deed_168 : decode cX11_deed 168 = .ok (.goto 16, 3) := by decide +kernel
theorem dX11_deed_171 : decode cX11_deed 171 = .ok (.iload_n 2, 1) := by decide +kernel
theorem dX11_deed_172 : decode cX11_deed 172 = .ok (.bipush 12, 2) := by decide +kernel
theorem dX11_deed_174 : decode cX11_deed 174 = .ok (.if_icmp .ne 8, 3) := by decide +kernel
theorem dX11_deed_177 : decode cX11_deed 177 = .ok (.bipush 11, 2) := by decide +kernel
theorem dX11_deed_179 : decode cX11_deed 179 = .ok (.goto 5, 3) := by decide +kernel
theorem dX11_deed_182 : decode cX11_deed 182 = .ok (.bipush 9, 2) := by decide +kernel
theorem dX11_deed_184 : decode cX11_deed 184 = .ok (.invokevirtual 240, 3) := by decide +kernel
theorem dX11_deed_187 : decode cX11_deed 187 = .ok (.iastore, 1) := by decide +kernel
theorem dX11_deed_188 : decode cX11_deed 188 = .ok (.return_, 1) := by decide +kernel
theorem dX11_program_0 : decode cX11_program 0 = .ok (.aload_n 0, 1) := by decide +kernel
theorem dX11_program_1 : decode cX11_program 1 = .ok (.getfield 9, 3) := by decide +kernel
theorem dX11_program_4 : decode cX11_program 4 = .ok (.iconst 5, 1) := by decide +kernel
theorem dX11_program_5 : decode cX11_program 5 = .ok (.iaload, 1) := by decide +kernel
theorem dX11_program_6 : decode cX11_program 6 = .ok (.bipush 6, 2) := by decide +kernel
theorem dX11_program_8 : decode cX11_program 8 = .ok (.if_icmp .ne 10, 3) := by decide +kernel
theorem dX11_program_11 : decode cX11_program 11 = .ok (.aload_n 0, 1) := by decide +kernel
theorem dX11_program_12 : decode cX11_program 12 = .ok (.ldc 136, 2) := by decide +kernel
theorem dX11_program_14 : decode cX11_program 14 = .ok (.invokevirtual 94, 3) := by decide +kernel
theorem dX11_program_17 : decode cX11_program 17 = .ok (.ireturn, 1) := by decide +kernel
theorem dX11_program_18 : decode cX11_program 18 = .ok (.sipush 434, 3) := by decide +kernel
theorem dX11_program_21 : decode cX11_program 21 = .ok (.bipush 37, 2) := by decide +kernel
theorem dX11_program_23 : decode cX11_program 23 = .ok (.aload_n 0, 1) := by decide +kernel
theorem dX11_program_24 : decode cX11_program 24 = .ok (.getfield 9, 3) := by decide +kernel
theorem dX11_program_27 : decode cX11_program 27 = .ok (.iconst 5, 1) := by decide +kernel
theorem dX11_program_28 : decode cX11_program 28 = .ok (.iaload, 1) := by decide +kernel
theorem dX11_program_29 : decode cX11_program 29 = .ok (.imul, 1) := by decide +kernel
theorem dX11_program_30 : decode cX11_program 30 = .ok (.iadd, 1) := by decide +kernel
theorem dX11_program_31 : decode cX11_program 31 = .ok (.istore_n 1, 1) := by decide +kernel
theorem dX11_program_32 : decode cX11_program 32 = .ok (.aload_n 0, 1) := by decide +kernel
theorem dX11_program_33 : decode cX11_program 33 = .ok (.iconst 0, 1) := by decide +kernel
theorem dX11_program_34 : decode cX11_program 34 = .ok (.putfield 176, 3) := by decide +kernel
theorem dX11_program_37 : decode cX11_program 37 = .ok (.aload_n 0, 1) := by decide +kernel
theorem dX11_program_38 : decode cX11_program 38 = .ok (.iconst 0, 1) := by decide +kernel
theorem dX11_program_39 : decode cX11_program 39 = .ok (.putfield 192, 3) := by decide +kernel
theorem dX11_program_42 : decode cX11_program 42 = .ok (.aload_n 0, 1) := by decide +kernel
theorem dX11_program_43 : decode cX11_program 43 = .ok (.invokevirtual 204, 3) := by decide +kernel
theorem dX11_program_46 : decode cX11_program 46 = .ok (.iconst 0, 1) := by decide +kernel
theorem dX11_program_47 : decode cX11_program 47 = .ok (.istore_n 2, 1) := by decide +kernel
theorem dX11_program_48 : decode cX11_program 48 = .ok (.iconst 1, 1) := by decide +kernel
theorem dX11_program_49 : decode cX11_program 49 = .ok (.istore_n 3, 1) := by decide +kernel
theorem dX11_program_50 : decode cX11_program 50 = .ok (.iload_n 3, 1) := by decide +kernel
theorem dX11_program_51 : decode cX11_program 51 = .ok (.ifCond .eq 57, 3) := by decide +kernel
theorem dX11_program_54 : decode cX11_program 54 = .ok (.aload_n 0, 1) := by decide +kernel
theorem dX11_program_55 : decode cX11_program 55 = .ok (.iload_n 2, 1) := by decide +kernel
theorem dX11_program_56 : decode cX11_program 56 = .ok (.bipush 12, 2) := by decide +kernel
theorem dX11_program_58 : decode cX11_program 58 = .ok (.if_icmp .ne 7, 3) := by decide +kernel
theorem dX11_program_61 : decode cX11_program 61 = .ok (.iconst 1, 1) := by decide +kernel
theorem dX11_program_62 : decode cX11_program 62 = .ok (.goto 4, 3) := by decide +kernel
theorem dX11_program_65 : decode cX11_program 65 = .ok (.iconst 0, 1) := by decide +kernel
theorem dX11_program_66 : decode cX11_program 66 = .ok (.putfield 192, 3) := by decide +kernel
theorem dX11_program_69 : decode cX11_program 69 = .ok (.aload_n 0, 1) := by decide +kernel
theorem dX11_program_70 : decode cX11_program 70 = .ok (.getfield 192, 3) := by decide +kernel
theorem dX11_program_73 : decode cX11_program 73 = .ok (.ifCond .ne 14, 3) := by decide +kernel
theorem dX11_program_76 : decode cX11_program 76 = .ok (.aload_n 0, 1) := by decide +kernel
theorem dX11_program_77 : decode cX11_program 77 = .ok (.iload_n 1, 1) := by decide +kernel
theorem dX11_program_78 : decode cX11_program 78 = .ok (.iconst 1, 1) := by decide +kernel
theorem dX11_program_79 : decode cX11_program 79 = .ok (.iadd, 1) := by decide +kernel
theorem dX11_program_80 : decode cX11_program 80 = .ok (.iconst 3, 1) := by decide +kernel
theorem dX11_program_81 : decode cX11_program 81 = .ok (.iload_n 2, 1) := by decide +kernel
theorem dX11_program_82 : decode cX11_program 82 = .ok (.imul, 1) := by decide +kernel
theorem dX11_program_83 : decode cX11_program 83 = .ok (.iadd, 1) := by decide +kernel
theorem dX11_program_84 : decode cX11_program 84 = .ok (.invokevirtual 249, 3) := by decide +kernel
theorem dX11_program_87 : decode cX11_program 87 = .ok (.iinc 2 1, 3) := by decide +kernel
theorem dX11_program_90 : decode cX11_program 90 = .ok (.aload_n 0, 1) := by decide +kernel
theorem dX11_program_91 : decode cX11_program 91 = .ok (.bipush 59, 2) := by decide +kernel
theorem dX11_program_93 : decode cX11_program 93 = .ok (.invokevirtual 237, 3) := by decide +kernel
theorem dX11_program_96 : decode cX11_program 96 = .ok (.istore_n 3, 1) := by decide +kernel
theorem dX11_program_97 : decode cX11_program 97 = .ok (.iload_n 3, 1) := by decide +kernel
theorem dX11_program_98 : decode cX11_program 98 = .ok (.ifCond .eq (-48), 3) := by decide +kernel
theorem dX11_program_101 : decode cX11_program 101 = .ok (.aload_n 0, 1) := by decide +kernel
theorem dX11_program_102 : decode cX11_program 102 = .ok (.invokevirtual 204, 3) := by decide +kernel
theorem dX11_program_105 : decode cX11_program 105 = .ok (.goto (-55), 3) := by decide +kernel
theorem dX11_program_108 : decode cX11_program 108 = .ok (.aload_n 0, 1) := by decide +kernel
theorem dX11_program_109 : decode cX11_program 109 = .ok (.aload_n 0, 1) := by decide +kernel
theorem dX11_program_110 : decode cX11_program 110 = .ok (.getfield 192, 3) := by decide +kernel
theorem dX11_program_113 : decode cX11_program 113 = .ok (.ifCond .ne 10, 3) := by decide +kernel
theorem dX11_program_116 : decode cX11_program 116 = .ok (.aload_n 0, 1) := by decide +kernel
theorem dX11_program_117 : decode cX11_program 117 = .ok (.getfield 189, 3) := by decide +kernel
theorem dX11_program_120 : decode cX11_program 120 = .ok (.ifCond .eq 7, 3) := by decide +kernel
theorem dX11_program_123 : decode cX11_program 123 = .ok (.iconst 1, 1) := by decide +kernel
theorem dX11_program_124 : decode cX11_program 124 = .ok (.goto 4, 3) := by decide +kernel
theorem dX11_program_127 : decode cX11_program 127 = .ok (.iconst 0, 1) := by decide +kernel
theorem dX11_program_128 : decode cX11_program 128 = .ok (.putfield 192, 3) := by decide +kernel
theorem dX11_program_131 : decode cX11_program 131 = .ok (.aload_n 0, 1) := by decide +kernel
theorem dX11_program_132 : decode cX11_program 132 = .ok (.getfield 179, 3) := by decide +kernel
theorem dX11_program_135 : decode cX11_program 135 = .ok (.istore 4, 2) := by decide +kernel
theorem dX11_program_137 : decode cX11_program 137 = .ok (.aload_n 0, 1) := by decide +kernel
theorem dX11_program_138 : decode cX11_program 138 = .ok (.iconst 0, 1) := by decide +kernel
theorem dX11_program_139 : decode cX11_program 139 = .ok (.putfield 172, 3) := by decide +kernel
theorem dX11_program_142 : decode cX11_program 142 = .ok (.aload_n 0, 1) := by decide +kernel
theorem dX11_program_143 : decode cX11_program 143 = .ok (.getfield 192, 3) := by decide +kernel
theorem dX11_program_146 : decode cX11_program 146 = .ok (.ifCond .eq 8, 3) := by decide +kernel
theorem dX11_program_149 : decode cX11_program 149 = .ok (.iconst (-1), 1) := by decide +kernel
theorem dX11_program_150 : decode cX11_program 150 = .ok (.iload 4, 2) := by decide +kernel
theorem dX11_program_152 : decode cX11_program 152 = .ok (.isub, 1) := by decide +kernel
theorem dX11_program_153 : decode cX11_program 153 = .ok (.ireturn, 1) := by decide +kernel
theorem dX11_program_154 : decode cX11_program 154 = .ok (.aload_n 0, 1) := by decide +kernel
theorem dX11_program_155 : decode cX11_program 155 = .ok (.getfield 9, 3) := by decide +kernel
theorem dX11_program_158 : decode cX11_program 158 = .ok (.iload_n 1, 1) := by decide +kernel
theorem dX11_program_159 : decode cX11_program 159 = .ok (.iload_n 2, 1) := by decide +kernel
theorem dX11_program_160 : decode cX11_program 160 = .ok (.iastore, 1) := by decide +kernel
theorem dX11_program_161 : decode cX11_program 161 = .ok (.aload_n 0, 1) := by decide +kernel
theorem dX11_program_162 : decode cX11_program 162 = .ok (.getfield 9, 3) := by decide +kernel
theorem dX11_program_165 : decode cX11_program 165 = .ok (.iconst 5, 1) := by decide +kernel
theorem dX11_program_166 : decode cX11_program 166 = .ok (.dup2, 1) := by decide +kernel
theorem dX11_program_167 : decode cX11_program 167 = .ok (.iaload, 1) := by decide +kernel
theorem dX11_program_168 : decode cX11_program 168 = .ok (.iconst 1, 1) := by decide +kernel
theorem dX11_program_169 : decode cX11_program 169 = .ok (.iadd, 1) := by decide +kernel
theorem dX11_program_170 : decode cX11_program 170 = .ok (.iastore, 1) := by decide +kernel
theorem dX11_program_171 : decode cX11_program 171 = .ok (.aload_n 0, 1) := by decide +kernel
theorem dX11_program_172 : decode cX11_program 172 = .ok (.getfield 9, 3) := by decide +kernel
theorem dX11_program_175 : decode cX11_program 175 = .ok (.iconst 5, 1) := by decide +kernel
theorem dX11_program_176 : decode cX11_program 176 = .ok (.iaload, 1) := by decide +kernel
theorem dX11_program_177 : decode cX11_program 177 = .ok (.iconst 1, 1) := by decide +kernel
theorem dX11_program_178 : decode cX11_program 178 = .ok (.isub, 1) := by decide +kernel
theorem dX11_program_179 : decode cX11_program 179 = .ok (.ireturn, 1) := by decide +kernel
theorem dX11_isProgram_0 : decode cX11_isProgram 0 = .ok (.iload_n 1, 1) := by decide +kernel
theorem dX11_isProgram_1 : decode cX11_isProgram 1 = .ok (.i2l, 1) := by decide +kernel
theorem dX11_isProgram_2 : decode cX11_isProgram 2 = .ok (.lconst 0, 1) := by decide +kernel
theorem dX11_isProgram_3 : decode cX11_isProgram 3 = .ok (.aload_n 0, 1) := by decide +kernel
theorem dX11_isProgram_4 : decode cX11_isProgram 4 = .ok (.getfield 9, 3) := by decide +kernel
theorem dX11_isProgram_7 : decode cX11_isProgram 7 = .ok (.iconst 5, 1) := by decide +kernel
theorem dX11_isProgram_8 : decode cX11_isProgram 8 = .ok (.iaload, 1) := by decide +kernel
theorem dX11_isProgram_9 : decode cX11_isProgram 9 = .ok (.iconst 1, 1) := by decide +kernel
theorem dX11_isProgram_10 : decode cX11_isProgram 10 = .ok (.isub, 1) := by decide +kernel
theorem dX11_isProgram_11 : decode cX11_isProgram 11 = .ok (.i2l, 1) := by decide +kernel
theorem dX11_isProgram_12 : decode cX11_isProgram 12 = .ok (.invokestatic 43, 3) := by decide +kernel
theorem dX11_isProgram_15 : decode cX11_isProgram 15 = .ok (.ireturn, 1) := by decide +kernel
theorem dX11_programOf_0 : decode cX11_programOf 0 = .ok (.aload_n 0, 1) := by decide +kernel
theorem dX11_programOf_1 : decode cX11_programOf 1 = .ok (.iload_n 1, 1) := by decide +kernel
theorem dX11_programOf_2 : decode cX11_programOf 2 = .ok (.invokevirtual 252, 3) := by decide +kernel
theorem dX11_programOf_5 : decode cX11_programOf 5 = .ok (.ifCond .eq 13, 3) := by decide +kernel
theorem dX11_programOf_8 : decode cX11_programOf 8 = .ok (.iload_n 2, 1) := by decide +kernel
theorem dX11_programOf_9 : decode cX11_programOf 9 = .ok (.i2l, 1) := by decide +kernel
theorem dX11_programOf_10 : decode cX11_programOf 10 = .ok (.lconst 0, 1) := by decide +kernel
theorem dX11_programOf_11 : decode cX11_programOf 11 = .ok (.lconst 1, 1) := by decide +kernel
theorem dX11_programOf_12 : decode cX11_programOf 12 = .ok (.invokestatic 43, 3) := by decide +kernel
theorem dX11_programOf_15 : decode cX11_programOf 15 = .ok (.ifCond .ne 10, 3) := by decide +kernel
theorem dX11_programOf_18 : decode cX11_programOf 18 = .ok (.aload_n 0, 1) := by decide +kernel
theorem dX11_programOf_19 : decode cX11_programOf 19 = .ok (.ldc 40, 2) := by decide +kernel
theorem dX11_programOf_21 : decode cX11_programOf 21 = .ok (.invokevirtual 94, 3) := by decide +kernel
theorem dX11_programOf_24 : decode cX11_programOf 24 = .ok (.ireturn, 1) := by decide +kernel
theorem dX11_programOf_25 : decode cX11_programOf 25 = .ok (.sipush 434, 3) := by decide +kernel
theorem dX11_programOf_28 : decode cX11_programOf 28 = .ok (.bipush 37, 2) := by decide +kernel
theorem dX11_programOf_30 : decode cX11_programOf 30 = .ok (.iload_n 1, 1) := by decide +kernel
theorem dX11_programOf_31 : decode cX11_programOf 31 = .ok (.imul, 1) := by decide +kernel
theorem dX11_programOf_32 : decode cX11_programOf 32 = .ok (.iadd, 1) := by decide +kernel
theorem dX11_programOf_33 : decode cX11_programOf 33 = .ok (.istore_n 3, 1) := by decide +kernel
theorem dX11_programOf_34 : decode cX11_programOf 34 = .ok (.iconst 0, 1) := by decide +kernel
theorem dX11_programOf_35 : decode cX11_programOf 35 = .ok (.istore 4, 2) := by decide +kernel
theorem dX11_programOf_37 : decode cX11_programOf 37 = .ok (.iconst 0, 1) := by decide +kernel
theorem dX11_programOf_38 : decode cX11_programOf 38 = .ok (.istore 5, 2) := by decide +kernel
theorem dX11_programOf_40 : decode cX11_programOf 40 = .ok (.iload 5, 2) := by decide +kernel
theorem dX11_programOf_42 : decode cX11_programOf 42 = .ok (.aload_n 0, 1) := by decide +kernel
theorem dX11_programOf_43 : decode cX11_programOf 43 = .ok (.getfield 9, 3) := by decide +kernel
theorem dX11_programOf_46 : decode cX11_programOf 46 = .ok (.iload_n 3, 1) := by decide +kernel
theorem dX11_programOf_47 : decode cX11_programOf 47 = .ok (.iaload, 1) := by decide +kernel
theorem dX11_programOf_48 : decode cX11_programOf 48 = .ok (.if_icmp .ge 49, 3) := by decide +kernel
theorem dX11_programOf_51 : decode cX11_programOf 51 = .ok (.iload 4, 2) := by decide +kernel
theorem dX11_programOf_53 : decode cX11_programOf 53 = .ok (.aload_n 0, 1) := by decide +kernel
theorem dX11_programOf_54 : decode cX11_programOf 54 = .ok (.getfield 9, 3) := by decide +kernel
theorem dX11_programOf_57 : decode cX11_programOf 57 = .ok (.iload_n 3, 1) := by decide +kernel
theorem dX11_programOf_58 : decode cX11_programOf 58 = .ok (.iconst 1, 1) := by decide +kernel
theorem dX11_programOf_59 : decode cX11_programOf 59 = .ok (.iadd, 1) := by decide +kernel
theorem dX11_programOf_60 : decode cX11_programOf 60 = .ok (.iconst 3, 1) := by decide +kernel
theorem dX11_programOf_61 : decode cX11_programOf 61 = .ok (.iload 5, 2) := by decide +kernel
theorem dX11_programOf_63 : decode cX11_programOf 63 = .ok (.imul, 1) := by decide +kernel
theorem dX11_programOf_64 : decode cX11_programOf 64 = .ok (.iadd, 1) := by decide +kernel
theorem dX11_programOf_65 : decode cX11_programOf 65 = .ok (.iaload, 1) := by decide +kernel
theorem dX11_programOf_66 : decode cX11_programOf 66 = .ok (.bipush 8, 2) := by decide +kernel
theorem dX11_programOf_68 : decode cX11_programOf 68 = .ok (.if_icmp .ne 19, 3) := by decide +kernel
theorem dX11_programOf_71 : decode cX11_programOf 71 = .ok (.aload_n 0, 1) := by decide +kernel
theorem dX11_programOf_72 : decode cX11_programOf 72 = .ok (.getfield 9, 3) := by decide +kernel
theorem dX11_programOf_75 : decode cX11_programOf 75 = .ok (.iload_n 3, 1) := by decide +kernel
theorem dX11_programOf_76 : decode cX11_programOf 76 = .ok (.iconst 2, 1) := by decide +kernel
theorem dX11_programOf_77 : decode cX11_programOf 77 = .ok (.iadd, 1) := by decide +kernel
theorem dX11_programOf_78 : decode cX11_programOf 78 = .ok (.iconst 3, 1) := by decide +kernel
theorem dX11_programOf_79 : decode cX11_programOf 79 = .ok (.iload 5, 2) := by decide +kernel
theorem dX11_programOf_81 : decode cX11_programOf 81 = .ok (.imul, 1) := by decide +kernel
theorem dX11_programOf_82 : decode cX11_programOf 82 = .ok (.iadd, 1) := by decide +kernel
theorem dX11_programOf_83 : decode cX11_programOf 83 = .ok (.iaload, 1) := by decide +kernel
theorem dX11_programOf_84 : decode cX11_programOf 84 = .ok (.goto 4, 3) := by decide +kernel
theorem dX11_programOf_87 : decode cX11_programOf 87 = .ok (.iconst 0, 1) := by decide +kernel
theorem dX11_programOf_88 : decode cX11_programOf 88 = .ok (.iadd, 1) := by decide +kernel
theorem dX11_programOf_89 : decode cX11_programOf 89 = .ok (.istore 4, 2) := by decide +kernel
theorem dX11_programOf_91 : decode cX11_programOf 91 = .ok (.iinc 5 1, 3) := by decide +kernel
theorem dX11_programOf_94 : decode cX11_programOf 94 = .ok (.goto (-54), 3) := by decide +kernel
theorem dX11_programOf_97 : decode cX11_programOf 97 = .ok (.iload_n 2, 1) := by decide +kernel
theorem dX11_programOf_98 : decode cX11_programOf 98 = .ok (.ifCond .ne 12, 3) := by decide +kernel
theorem dX11_programOf_101 : decode cX11_programOf 101 = .ok (.aload_n 0, 1) := by decide +kernel
theorem dX11_programOf_102 : decode cX11_programOf 102 = .ok (.getfield 9, 3) := by decide +kernel
theorem dX11_programOf_105 : decode cX11_programOf 105 = .ok (.iload_n 3, 1) := by decide +kernel
theorem dX11_programOf_106 : decode cX11_programOf 106 = .ok (.iaload, 1) := by decide +kernel
theorem dX11_programOf_107 : decode cX11_programOf 107 = .ok (.goto 5, 3) := by decide +kernel
theorem dX11_programOf_110 : decode cX11_programOf 110 = .ok (.iload 4, 2) := by decide +kernel
theorem dX11_programOf_112 : decode cX11_programOf 112 = .ok (.ireturn, 1) := by decide +kernel
theorem dX11_does_0 : decode cX11_does 0 = .ok (.iload_n 1, 1) := by decide +kernel
theorem dX11_does_1 : decode cX11_does 1 = .ok (.bipush 8, 2) := by decide +kernel
theorem dX11_does_3 : decode cX11_does 3 = .ok (.if_icmp .ge 14, 3) := by decide +kernel
theorem dX11_does_6 : decode cX11_does 6 = .ok (.aload_n 0, 1) := by decide +kernel
theorem dX11_does_7 : decode cX11_does 7 = .ok (.iload_n 1, 1) := by decide +kernel
theorem dX11_does_8 : decode cX11_does 8 = .ok (.iload_n 3, 1) := by decide +kernel
theorem dX11_does_9 : decode cX11_does 9 = .ok (.iload_n 2, 1) := by decide +kernel
theorem dX11_does_10 : decode cX11_does 10 = .ok (.invokevirtual 133, 3) := by decide +kernel
theorem dX11_does_13 : decode cX11_does 13 = .ok (.pop, 1) := by decide +kernel
theorem dX11_does_14 : decode cX11_does 14 = .ok (.goto 44, 3) := by decide +kernel
theorem dX11_does_17 : decode cX11_does 17 = .ok (.iload_n 1, 1) := by decide +kernel
theorem dX11_does_18 : decode cX11_does 18 = .ok (.bipush 8, 2) := by decide +kernel
theorem dX11_does_20 : decode cX11_does 20 = .ok (.if_icmp .ne 11, 3) := by decide +kernel
theorem dX11_does_23 : decode cX11_does 23 = .ok (.aload_n 0, 1) := by decide +kernel
theorem dX11_does_24 : decode cX11_does 24 = .ok (.iload_n 2, 1) := by decide +kernel
theorem dX11_does_25 : decode cX11_does 25 = .ok (.invokevirtual 162, 3) := by decide +kernel
theorem dX11_does_28 : decode cX11_does 28 = .ok (.goto 30, 3) := by decide +kernel
theorem dX11_does_31 : decode cX11_does 31 = .ok (.iload_n 1, 1) := by decide +kernel
theorem dX11_does_32 : decode cX11_does 32 = .ok (.bipush 12, 2) := by decide +kernel
theorem dX11_does_34 : decode cX11_does 34 = .ok (.if_icmp .ne 12, 3) := by decide +kernel
theorem dX11_does_37 : decode cX11_does 37 = .ok (.aload_n 0, 1) := by decide +kernel
theorem dX11_does_38 : decode cX11_does 38 = .ok (.iload_n 2, 1) := by decide +kernel
theorem dX11_does_39 : decode cX11_does 39 = .ok (.invokevirtual 123, 3) := by decide +kernel
theorem dX11_does_42 : decode cX11_does 42 = .ok (.pop, 1) := by decide +kernel
theorem dX11_does_43 : decode cX11_does 43 = .ok (.goto 15, 3) := by decide +kernel
theorem dX11_does_46 : decode cX11_does 46 = .ok (.aload_n 0, 1) := by decide +kernel
theorem dX11_does_47 : decode cX11_does 47 = .ok (.getfield 9, 3) := by decide +kernel
theorem dX11_does_50 : decode cX11_does 50 = .ok (.iconst 0, 1) := by decide +kernel
theorem dX11_does_51 : decode cX11_does 51 = .ok (.iload_n 1, 1) := by decide +kernel
theorem dX11_does_52 : decode cX11_does 52 = .ok (.iadd, 1) := by decide +kernel
theorem dX11_does_53 : decode cX11_does 53 = .ok (.bipush 9, 2) := by decide +kernel
theorem dX11_does_55 : decode cX11_does 55 = .ok (.isub, 1) := by decide +kernel
theorem dX11_does_56 : decode cX11_does 56 = .ok (.iload_n 2, 1) := by decide +kernel
theorem dX11_does_57 : decode cX11_does 57 = .ok (.iastore, 1) := by decide +kernel
theorem dX11_does_58 : decode cX11_does 58 = .ok (.return_, 1) := by decide +kernel
theorem dX11_play_0 : decode cX11_play 0 = .ok (.aload_n 0, 1) := by decide +kernel
theorem dX11_play_1 : decode cX11_play 1 = .ok (.iload_n 1, 1) := by decide +kernel
theorem dX11_play_2 : decode cX11_play 2 = .ok (.invokevirtual 252, 3) := by decide +kernel
theorem dX11_play_5 : decode cX11_play 5 = .ok (.ifCond .ne 10, 3) := by decide +kernel
theorem dX11_play_8 : decode cX11_play 8 = .ok (.aload_n 0, 1) := by decide +kernel
theorem dX11_play_9 : decode cX11_play 9 = .ok (.ldc 40, 2) := by decide +kernel
theorem dX11_play_11 : decode cX11_play 11 = .ok (.invokevirtual 94, 3) := by decide +kernel
theorem dX11_play_14 : decode cX11_play 14 = .ok (.ireturn, 1) := by decide +kernel
theorem dX11_play_15 : decode cX11_play 15 = .ok (.sipush 434, 3) := by decide +kernel
theorem dX11_play_18 : decode cX11_play 18 = .ok (.bipush 37, 2) := by decide +kernel
theorem dX11_play_20 : decode cX11_play 20 = .ok (.iload_n 1, 1) := by decide +kernel
theorem dX11_play_21 : decode cX11_play 21 = .ok (.imul, 1) := by decide +kernel
theorem dX11_play_22 : decode cX11_play 22 = .ok (.iadd, 1) := by decide +kernel
theorem dX11_play_23 : decode cX11_play 23 = .ok (.istore_n 2, 1) := by decide +kernel
theorem dX11_play_24 : decode cX11_play 24 = .ok (.iconst 0, 1) := by decide +kernel
theorem dX11_play_25 : decode cX11_play 25 = .ok (.istore_n 3, 1) := by decide +kernel
theorem dX11_play_26 : decode cX11_play 26 = .ok (.iload_n 3, 1) := by decide +kernel
theorem dX11_play_27 : decode cX11_play 27 = .ok (.aload_n 0, 1) := by decide +kernel
theorem dX11_play_28 : decode cX11_play 28 = .ok (.getfield 9, 3) := by decide +kernel
theorem dX11_play_31 : decode cX11_play 31 = .ok (.iload_n 2, 1) := by decide +kernel
theorem dX11_play_32 : decode cX11_play 32 = .ok (.iaload, 1) := by decide +kernel
theorem dX11_play_33 : decode cX11_play 33 = .ok (.if_icmp .ge 49, 3) := by decide +kernel
theorem dX11_play_36 : decode cX11_play 36 = .ok (.aload_n 0, 1) := by decide +kernel
theorem dX11_play_37 : decode cX11_play 37 = .ok (.aload_n 0, 1) := by decide +kernel
theorem dX11_play_38 : decode cX11_play 38 = .ok (.getfield 9, 3) := by decide +kernel
theorem dX11_play_41 : decode cX11_play 41 = .ok (.iload_n 2, 1) := by decide +kernel
theorem dX11_play_42 : decode cX11_play 42 = .ok (.iconst 1, 1) := by decide +kernel
theorem dX11_play_43 : decode cX11_play 43 = .ok (.iadd, 1) := by decide +kernel
theorem dX11_play_44 : decode cX11_play 44 = .ok (.iconst 3, 1) := by decide +kernel
theorem dX11_play_45 : decode cX11_play 45 = .ok (.iload_n 3, 1) := by decide +kernel
theorem dX11_play_46 : decode cX11_play 46 = .ok (.imul, 1) := by decide +kernel
theorem dX11_play_47 : decode cX11_play 47 = .ok (.iadd, 1) := by decide +kernel
theorem dX11_play_48 : decode cX11_play 48 = .ok (.iaload, 1) := by decide +kernel
theorem dX11_play_49 : decode cX11_play 49 = .ok (.aload_n 0, 1) := by decide +kernel
theorem dX11_play_50 : decode cX11_play 50 = .ok (.getfield 9, 3) := by decide +kernel
theorem dX11_play_53 : decode cX11_play 53 = .ok (.iload_n 2, 1) := by decide +kernel
theorem dX11_play_54 : decode cX11_play 54 = .ok (.iconst 2, 1) := by decide +kernel
theorem dX11_play_55 : decode cX11_play 55 = .ok (.iadd, 1) := by decide +kernel
theorem dX11_play_56 : decode cX11_play 56 = .ok (.iconst 3, 1) := by decide +kernel
theorem dX11_play_57 : decode cX11_play 57 = .ok (.iload_n 3, 1) := by decide +kernel
theorem dX11_play_58 : decode cX11_play 58 = .ok (.imul, 1) := by decide +kernel
theorem dX11_play_59 : decode cX11_play 59 = .ok (.iadd, 1) := by decide +kernel
theorem dX11_play_60 : decode cX11_play 60 = .ok (.iaload, 1) := by decide +kernel
theorem dX11_play_61 : decode cX11_play 61 = .ok (.aload_n 0, 1) := by decide +kernel
theorem dX11_play_62 : decode cX11_play 62 = .ok (.getfield 9, 3) := by decide +kernel
theorem dX11_play_65 : decode cX11_play 65 = .ok (.iload_n 2, 1) := by decide +kernel
theorem dX11_play_66 : decode cX11_play 66 = .ok (.iconst 3, 1) := by decide +kernel
theorem dX11_play_67 : decode cX11_play 67 = .ok (.iadd, 1) := by decide +kernel
theorem dX11_play_68 : decode cX11_play 68 = .ok (.iconst 3, 1) := by decide +kernel
theorem dX11_play_69 : decode cX11_play 69 = .ok (.iload_n 3, 1) := by decide +kernel
theorem dX11_play_70 : decode cX11_play 70 = .ok (.imul, 1) := by decide +kernel
theorem dX11_play_71 : decode cX11_play 71 = .ok (.iadd, 1) := by decide +kernel
theorem dX11_play_72 : decode cX11_play 72 = .ok (.iaload, 1) := by decide +kernel
theorem dX11_play_73 : decode cX11_play 73 = .ok (.invokevirtual 255, 3) := by decide +kernel
theorem dX11_play_76 : decode cX11_play 76 = .ok (.iinc 3 1, 3) := by decide +kernel
theorem dX11_play_79 : decode cX11_play 79 = .ok (.goto (-53), 3) := by decide +kernel
theorem dX11_play_82 : decode cX11_play 82 = .ok (.aload_n 0, 1) := by decide +kernel
theorem dX11_play_83 : decode cX11_play 83 = .ok (.invokevirtual 165, 3) := by decide +kernel
theorem dX11_play_86 : decode cX11_play 86 = .ok (.ireturn, 1) := by decide +kernel
theorem dX11_goesAll_0 : decode cX11_goesAll 0 = .ok (.iload_n 2, 1) := by decide +kernel
theorem dX11_goesAll_1 : decode cX11_goesAll 1 = .ok (.istore 4, 2) := by decide +kernel
theorem dX11_goesAll_3 : decode cX11_goesAll 3 = .ok (.aload_n 0, 1) := by decide +kernel
theorem dX11_goesAll_4 : decode cX11_goesAll 4 = .ok (.iconst 0, 1) := by decide +kernel
theorem dX11_goesAll_5 : decode cX11_goesAll 5 = .ok (.putfield 259, 3) := by decide +kernel
theorem dX11_goesAll_8 : decode cX11_goesAll 8 = .ok (.aload_n 0, 1) := by decide +kernel
theorem dX11_goesAll_9 : decode cX11_goesAll 9 = .ok (.iconst (-1), 1) := by decide +kernel
theorem dX11_goesAll_10 : decode cX11_goesAll 10 = .ok (.putfield 262, 3) := by decide +kernel
theorem dX11_goesAll_13 : decode cX11_goesAll 13 = .ok (.aload_n 0, 1) := by decide +kernel
theorem dX11_goesAll_14 : decode cX11_goesAll 14 = .ok (.iload_n 3, 1) := by decide +kernel
theorem dX11_goesAll_15 : decode cX11_goesAll 15 = .ok (.putfield 265, 3) := by decide +kernel
theorem dX11_goesAll_18 : decode cX11_goesAll 18 = .ok (.aload_n 0, 1) := by decide +kernel
theorem dX11_goesAll_19 : decode cX11_goesAll 19 = .ok (.getfield 22, 3) := by decide +kernel
theorem dX11_goesAll_22 : decode cX11_goesAll 22 = .ok (.iconst 0, 1) := by decide +kernel
theorem dX11_goesAll_23 : decode cX11_goesAll 23 = .ok (.iload 4, 2) := by decide +kernel
theorem dX11_goesAll_25 : decode cX11_goesAll 25 = .ok (.iastore, 1) := by decide +kernel
theorem dX11_goesAll_26 : decode cX11_goesAll 26 = .ok (.aload_n 0, 1) := by decide +kernel
theorem dX11_goesAll_27 : decode cX11_goesAll 27 = .ok (.getfield 259, 3) := by decide +kernel
theorem dX11_goesAll_30 : decode cX11_goesAll 30 = .ok (.bipush 64, 2) := by decide +kernel
theorem dX11_goesAll_32 : decode cX11_goesAll 32 = .ok (.if_icmp .ge 99, 3) := by decide +kernel
theorem dX11_goesAll_35 : decode cX11_goesAll 35 = .ok (.aload_n 0, 1) := by decide +kernel
theorem dX11_goesAll_36 : decode cX11_goesAll 36 = .ok (.getfield 265, 3) := by decide +kernel
theorem dX11_goesAll_39 : decode cX11_goesAll 39 = .ok (.ifCond .le 92, 3) := by decide +kernel
theorem dX11_goesAll_42 : decode cX11_goesAll 42 = .ok (.aload_n 0, 1) := by decide +kernel
theorem dX11_goesAll_43 : decode cX11_goesAll 43 = .ok (.iload_n 1, 1) := by decide +kernel
theorem dX11_goesAll_44 : decode cX11_goesAll 44 = .ok (.iload 4, 2) := by decide +kernel
theorem dX11_goesAll_46 : decode cX11_goesAll 46 = .ok (.aload_n 0, 1) := by decide +kernel
theorem dX11_goesAll_47 : decode cX11_goesAll 47 = .ok (.getfield 265, 3) := by decide +kernel
theorem dX11_goesAll_50 : decode cX11_goesAll 50 = .ok (.aload_n 0, 1) := by decide +kernel
theorem dX11_goesAll_51 : decode cX11_goesAll 51 = .ok (.getfield 259, 3) := by decide +kernel
theorem dX11_goesAll_54 : decode cX11_goesAll 54 = .ok (.invokevirtual 140, 3) := by decide +kernel
theorem dX11_goesAll_57 : decode cX11_goesAll 57 = .ok (.istore 5, 2) := by decide +kernel
theorem dX11_goesAll_59 : decode cX11_goesAll 59 = .ok (.iload 5, 2) := by decide +kernel
theorem dX11_goesAll_61 : decode cX11_goesAll 61 = .ok (.iload 4, 2) := by decide +kernel
theorem dX11_goesAll_63 : decode cX11_goesAll 63 = .ok (.if_icmp .ne 4, 3) := by decide +kernel
theorem dX11_goesAll_66 : decode cX11_goesAll 66 = .ok (.return_, 1) := by decide +kernel
theorem dX11_goesAll_67 : decode cX11_goesAll 67 = .ok (.aload_n 0, 1) := by decide +kernel
theorem dX11_goesAll_68 : decode cX11_goesAll 68 = .ok (.dup, 1) := by decide +kernel
theorem dX11_goesAll_69 : decode cX11_goesAll 69 = .ok (.getfield 259, 3) := by decide +kernel
theorem dX11_goesAll_72 : decode cX11_goesAll 72 = .ok (.iconst 1, 1) := by decide +kernel
theorem dX11_goesAll_73 : decode cX11_goesAll 73 = .ok (.iadd, 1) := by decide +kernel
theorem dX11_goesAll_74 : decode cX11_goesAll 74 = .ok (.putfield 259, 3) := by decide +kernel
theorem dX11_goesAll_77 : decode cX11_goesAll 77 = .ok (.iload 5, 2) := by decide +kernel
theorem dX11_goesAll_79 : decode cX11_goesAll 79 = .ok (.ifCond .ge 13, 3) := by decide +kernel
theorem dX11_goesAll_82 : decode cX11_goesAll 82 = .ok (.aload_n 0, 1) := by decide +kernel
theorem dX11_goesAll_83 : decode cX11_goesAll 83 = .ok (.iload 4, 2) := by decide +kernel
theorem dX11_goesAll_85 : decode cX11_goesAll 85 = .ok (.bipush 12, 2) := by decide +kernel
theorem dX11_goesAll_87 : decode cX11_goesAll 87 = .ok (.irem, 1) := by decide +kernel
theorem dX11_goesAll_88 : decode cX11_goesAll 88 = .ok (.putfield 262, 3) := by decide +kernel
theorem dX11_goesAll_91 : decode cX11_goesAll 91 = .ok (.return_, 1) := by decide +kernel
theorem dX11_goesAll_92 : decode cX11_goesAll 92 = .ok (.iload 5, 2) := by decide +kernel
theorem dX11_goesAll_94 : decode cX11_goesAll 94 = .ok (.istore 4, 2) := by decide +kernel
theorem dX11_goesAll_96 : decode cX11_goesAll 96 = .ok (.aload_n 0, 1) := by decide +kernel
theorem dX11_goesAll_97 : decode cX11_goesAll 97 = .ok (.getfield 22, 3) := by decide +kernel
theorem dX11_goesAll_100 : decode cX11_goesAll 100 = .ok (.aload_n 0, 1) := by decide +kernel
theorem dX11_goesAll_101 : decode cX11_goesAll 101 = .ok (.getfield 259, 3) := by decide +kernel
theorem dX11_goesAll_104 : decode cX11_goesAll 104 = .ok (.iload 4, 2) := by decide +kernel
theorem dX11_goesAll_106 : decode cX11_goesAll 106 = .ok (.iastore, 1) := by decide +kernel
theorem dX11_goesAll_107 : decode cX11_goesAll 107 = .ok (.aload_n 0, 1) := by decide +kernel
theorem dX11_goesAll_108 : decode cX11_goesAll 108 = .ok (.dup, 1) := by decide +kernel
theorem dX11_goesAll_109 : decode cX11_goesAll 109 = .ok (.getfield 265, 3) := by decide +kernel
theorem dX11_goesAll_112 : decode cX11_goesAll 112 = .ok (.iload_n 1, 1) := by decide +kernel
theorem dX11_goesAll_113 : decode cX11_goesAll 113 = .ok (.invokestatic 147, 3) := by decide +kernel
theorem dX11_goesAll_116 : decode cX11_goesAll 116 = .ok (.ifCond .eq 7, 3) := by decide +kernel
theorem dX11_goesAll_119 : decode cX11_goesAll 119 = .ok (.iconst 1, 1) := by decide +kernel
theorem dX11_goesAll_120 : decode cX11_goesAll 120 = .ok (.goto 4, 3) := by decide +kernel
theorem dX11_goesAll_123 : decode cX11_goesAll 123 = .ok (.iconst 0, 1) := by decide +kernel
theorem dX11_goesAll_124 : decode cX11_goesAll 124 = .ok (.isub, 1) := by decide +kernel
theorem dX11_goesAll_125 : decode cX11_goesAll 125 = .ok (.putfield 265, 3) := by decide +kernel
theorem dX11_goesAll_128 : decode cX11_goesAll 128 = .ok (.goto (-102), 3) := by decide +kernel
theorem dX11_goesAll_131 : decode cX11_goesAll 131 = .ok (.return_, 1) := by decide +kernel
theorem dX11_onCells_0 : decode cX11_onCells 0 = .ok (.aload_n 0, 1) := by decide +kernel
theorem dX11_onCells_1 : decode cX11_onCells 1 = .ok (.getfield 262, 3) := by decide +kernel
theorem dX11_onCells_4 : decode cX11_onCells 4 = .ok (.ifCond .ge 10, 3) := by decide +kernel
theorem dX11_onCells_7 : decode cX11_onCells 7 = .ok (.aload_n 0, 1) := by decide +kernel
theorem dX11_onCells_8 : decode cX11_onCells 8 = .ok (.getfield 259, 3) := by decide +kernel
theorem dX11_onCells_11 : decode cX11_onCells 11 = .ok (.goto 9, 3) := by decide +kernel
theorem dX11_onCells_14 : decode cX11_onCells 14 = .ok (.aload_n 0, 1) := by decide +kernel
theorem dX11_onCells_15 : decode cX11_onCells 15 = .ok (.getfield 259, 3) := by decide +kernel
theorem dX11_onCells_18 : decode cX11_onCells 18 = .ok (.iconst 1, 1) := by decide +kernel
theorem dX11_onCells_19 : decode cX11_onCells 19 = .ok (.isub, 1) := by decide +kernel
theorem dX11_onCells_20 : decode cX11_onCells 20 = .ok (.ireturn, 1) := by decide +kernel
theorem dX11_isPath_0 : decode cX11_isPath 0 = .ok (.iload_n 0, 1) := by decide +kernel
theorem dX11_isPath_1 : decode cX11_isPath 1 = .ok (.invokestatic 127, 3) := by decide +kernel
theorem dX11_isPath_4 : decode cX11_isPath 4 = .ok (.ifCond .eq 21, 3) := by decide +kernel
theorem dX11_isPath_7 : decode cX11_isPath 7 = .ok (.iload_n 1, 1) := by decide +kernel
theorem dX11_isPath_8 : decode cX11_isPath 8 = .ok (.invokestatic 120, 3) := by decide +kernel
theorem dX11_isPath_11 : decode cX11_isPath 11 = .ok (.ifCond .eq 14, 3) := by decide +kernel
theorem dX11_isPath_14 : decode cX11_isPath 14 = .ok (.iload_n 2, 1) := by decide +kernel
theorem dX11_isPath_15 : decode cX11_isPath 15 = .ok (.invokestatic 130, 3) := by decide +kernel
theorem dX11_isPath_18 : decode cX11_isPath 18 = .ok (.ifCond .eq 7, 3) := by decide +kernel
theorem dX11_isPath_21 : decode cX11_isPath 21 = .ok (.iconst 1, 1) := by decide +kernel
theorem dX11_isPath_22 : decode cX11_isPath 22 = .ok (.goto 4, 3) := by decide +kernel
theorem dX11_isPath_25 : decode cX11_isPath 25 = .ok (.iconst 0, 1) := by decide +kernel
theorem dX11_isPath_26 : decode cX11_isPath 26 = .ok (.ireturn, 1) := by decide +kernel
theorem dX11_path_0 : decode cX11_path 0 = .ok (.iload_n 1, 1) := by decide +kernel
theorem dX11_path_1 : decode cX11_path 1 = .ok (.iload_n 2, 1) := by decide +kernel
theorem dX11_path_2 : decode cX11_path 2 = .ok (.iload_n 3, 1) := by decide +kernel
theorem dX11_path_3 : decode cX11_path 3 = .ok (.invokestatic 268, 3) := by decide +kernel
theorem dX11_path_6 : decode cX11_path 6 = .ok (.ifCond .eq 16, 3) := by decide +kernel
theorem dX11_path_9 : decode cX11_path 9 = .ok (.iload 4, 2) := by decide +kernel
theorem dX11_path_11 : decode cX11_path 11 = .ok (.i2l, 1) := by decide +kernel
theorem dX11_path_12 : decode cX11_path 12 = .ok (.lconst 0, 1) := by decide +kernel
theorem dX11_path_13 : decode cX11_path 13 = .ok (.ldc2_w 92, 3) := by decide +kernel
theorem dX11_path_16 : decode cX11_path 16 = .ok (.invokestatic 43, 3) := by decide +kernel
theorem dX11_path_19 : decode cX11_path 19 = .ok (.ifCond .ne 10, 3) := by decide +kernel
theorem dX11_path_22 : decode cX11_path 22 = .ok (.aload_n 0, 1) := by decide +kernel
theorem dX11_path_23 : decode cX11_path 23 = .ok (.ldc 40, 2) := by decide +kernel
theorem dX11_path_25 : decode cX11_path 25 = .ok (.invokevirtual 94, 3) := by decide +kernel
theorem dX11_path_28 : decode cX11_path 28 = .ok (.ireturn, 1) := by decide +kernel
theorem dX11_path_29 : decode cX11_path 29 = .ok (.aload_n 0, 1) := by decide +kernel
theorem dX11_path_30 : decode cX11_path 30 = .ok (.iload_n 1, 1) := by decide +kernel
theorem dX11_path_31 : decode cX11_path 31 = .ok (.iload_n 2, 1) := by decide +kernel
theorem dX11_path_32 : decode cX11_path 32 = .ok (.iload_n 3, 1) := by decide +kernel
theorem dX11_path_33 : decode cX11_path 33 = .ok (.invokevirtual 271, 3) := by decide +kernel
theorem dX11_path_36 : decode cX11_path 36 = .ok (.iload 4, 2) := by decide +kernel
theorem dX11_path_38 : decode cX11_path 38 = .ok (.ifCond .ne 10, 3) := by decide +kernel
theorem dX11_path_41 : decode cX11_path 41 = .ok (.aload_n 0, 1) := by decide +kernel
theorem dX11_path_42 : decode cX11_path 42 = .ok (.getfield 262, 3) := by decide +kernel
theorem dX11_path_45 : decode cX11_path 45 = .ok (.goto 38, 3) := by decide +kernel
theorem dX11_path_48 : decode cX11_path 48 = .ok (.iload 4, 2) := by decide +kernel
theorem dX11_path_50 : decode cX11_path 50 = .ok (.iconst 1, 1) := by decide +kernel
theorem dX11_path_51 : decode cX11_path 51 = .ok (.if_icmp .ne 10, 3) := by decide +kernel
theorem dX11_path_54 : decode cX11_path 54 = .ok (.aload_n 0, 1) := by decide +kernel
theorem dX11_path_55 : decode cX11_path 55 = .ok (.getfield 259, 3) := by decide +kernel
theorem dX11_path_58 : decode cX11_path 58 = .ok (.goto 25, 3) := by decide +kernel
theorem dX11_path_61 : decode cX11_path 61 = .ok (.iload 4, 2) := by decide +kernel
theorem dX11_path_63 : decode cX11_path 63 = .ok (.iconst 2, 1) := by decide +kernel
theorem dX11_path_64 : decode cX11_path 64 = .ok (.if_icmp .ne 15, 3) := by decide +kernel
theorem dX11_path_67 : decode cX11_path 67 = .ok (.aload_n 0, 1) := by decide +kernel
theorem dX11_path_68 : decode cX11_path 68 = .ok (.getfield 22, 3) := by decide +kernel
theorem dX11_path_71 : decode cX11_path 71 = .ok (.aload_n 0, 1) := by decide +kernel
theorem dX11_path_72 : decode cX11_path 72 = .ok (.invokevirtual 274, 3) := by decide +kernel
theorem dX11_path_75 : decode cX11_path 75 = .ok (.iaload, 1) := by decide +kernel
theorem dX11_path_76 : decode cX11_path 76 = .ok (.goto 7, 3) := by decide +kernel
theorem dX11_path_79 : decode cX11_path 79 = .ok (.aload_n 0, 1) := by decide +kernel
theorem dX11_path_80 : decode cX11_path 80 = .ok (.getfield 265, 3) := by decide +kernel
theorem dX11_path_83 : decode cX11_path 83 = .ok (.ireturn, 1) := by decide +kernel
theorem dX11_along_0 : decode cX11_along 0 = .ok (.iload_n 1, 1) := by decide +kernel
theorem dX11_along_1 : decode cX11_along 1 = .ok (.iload_n 2, 1) := by decide +kernel
theorem dX11_along_2 : decode cX11_along 2 = .ok (.iload_n 3, 1) := by decide +kernel
theorem dX11_along_3 : decode cX11_along 3 = .ok (.invokestatic 268, 3) := by decide +kernel
theorem dX11_along_6 : decode cX11_along 6 = .ok (.ifCond .eq 16, 3) := by decide +kernel
theorem dX11_along_9 : decode cX11_along 9 = .ok (.iload 4, 2) := by decide +kernel
theorem dX11_along_11 : decode cX11_along 11 = .ok (.i2l, 1) := by decide +kernel
theorem dX11_along_12 : decode cX11_along 12 = .ok (.lconst 0, 1) := by decide +kernel
theorem dX11_along_13 : decode cX11_along 13 = .ok (.ldc2_w 277, 3) := by decide +kernel
theorem dX11_along_16 : decode cX11_along 16 = .ok (.invokestatic 43, 3) := by decide +kernel
theorem dX11_along_19 : decode cX11_along 19 = .ok (.ifCond .ne 10, 3) := by decide +kernel
theorem dX11_along_22 : decode cX11_along 22 = .ok (.aload_n 0, 1) := by decide +kernel
theorem dX11_along_23 : decode cX11_along 23 = .ok (.ldc 40, 2) := by decide +kernel
theorem dX11_along_25 : decode cX11_along 25 = .ok (.invokevirtual 94, 3) := by decide +kernel
theorem dX11_along_28 : decode cX11_along 28 = .ok (.ireturn, 1) := by decide +kernel
theorem dX11_along_29 : decode cX11_along 29 = .ok (.aload_n 0, 1) := by decide +kernel
theorem dX11_along_30 : decode cX11_along 30 = .ok (.iload_n 1, 1) := by decide +kernel
theorem dX11_along_31 : decode cX11_along 31 = .ok (.iload_n 2, 1) := by decide +kernel
theorem dX11_along_32 : decode cX11_along 32 = .ok (.iload_n 3, 1) := by decide +kernel
theorem dX11_along_33 : decode cX11_along 33 = .ok (.invokevirtual 271, 3) := by decide +kernel
theorem dX11_along_36 : decode cX11_along 36 = .ok (.iload 4, 2) := by decide +kernel
theorem dX11_along_38 : decode cX11_along 38 = .ok (.aload_n 0, 1) := by decide +kernel
theorem dX11_along_39 : decode cX11_along 39 = .ok (.invokevirtual 274, 3) := by decide +kernel
theorem dX11_along_42 : decode cX11_along 42 = .ok (.if_icmp .le 12, 3) := by decide +kernel
theorem dX11_along_45 : decode cX11_along 45 = .ok (.aload_n 0, 1) := by decide +kernel
theorem dX11_along_46 : decode cX11_along 46 = .ok (.ldc 126, 2) := by decide +kernel
theorem dX11_along_48 : decode cX11_along 48 = .ok (.invokevirtual 94, 3) := by decide +kernel
theorem dX11_along_51 : decode cX11_along 51 = .ok (.goto 10, 3) := by decide +kernel
theorem dX11_along_54 : decode cX11_along 54 = .ok (.aload_n 0, 1) := by decide +kernel
theorem dX11_along_55 : decode cX11_along 55 = .ok (.getfield 22, 3) := by decide +kernel
theorem dX11_along_58 : decode cX11_along 58 = .ok (.iload 4, 2) := by decide +kernel
theorem dX11_along_60 : decode cX11_along 60 = .ok (.iaload, 1) := by decide +kernel
theorem dX11_along_61 : decode cX11_along 61 = .ok (.ireturn, 1) := by decide +kernel
theorem dX11_least_0 : decode cX11_least 0 = .ok (.iload_n 1, 1) := by decide +kernel
theorem dX11_least_1 : decode cX11_least 1 = .ok (.iload_n 2, 1) := by decide +kernel
theorem dX11_least_2 : decode cX11_least 2 = .ok (.iconst 1, 1) := by decide +kernel
theorem dX11_least_3 : decode cX11_least 3 = .ok (.invokestatic 268, 3) := by decide +kernel
theorem dX11_least_6 : decode cX11_least 6 = .ok (.ifCond .ne 10, 3) := by decide +kernel
theorem dX11_least_9 : decode cX11_least 9 = .ok (.aload_n 0, 1) := by decide +kernel
theorem dX11_least_10 : decode cX11_least 10 = .ok (.ldc 40, 2) := by decide +kernel
theorem dX11_least_12 : decode cX11_least 12 = .ok (.invokevirtual 94, 3) := by decide +kernel
theorem dX11_least_15 : decode cX11_least 15 = .ok (.ireturn, 1) := by decide +kernel
theorem dX11_least_16 : decode cX11_least 16 = .ok (.iconst (-1), 1) := by decide +kernel
theorem dX11_least_17 : decode cX11_least 17 = .ok (.istore 4, 2) := by decide +kernel
theorem dX11_least_19 : decode cX11_least 19 = .ok (.aload_n 0, 1) := by decide +kernel
theorem dX11_least_20 : decode cX11_least 20 = .ok (.iload_n 3, 1) := by decide +kernel
theorem dX11_least_21 : decode cX11_least 21 = .ok (.putfield 57, 3) := by decide +kernel
theorem dX11_least_24 : decode cX11_least 24 = .ok (.iconst 1, 1) := by decide +kernel
theorem dX11_least_25 : decode cX11_least 25 = .ok (.istore 5, 2) := by decide +kernel
theorem dX11_least_27 : decode cX11_least 27 = .ok (.iload 5, 2) := by decide +kernel
theorem dX11_least_29 : decode cX11_least 29 = .ok (.bipush 100, 2) := by decide +kernel
theorem dX11_least_31 : decode cX11_least 31 = .ok (.if_icmp .ge 37, 3) := by decide +kernel
theorem dX11_least_34 : decode cX11_least 34 = .ok (.iload 4, 2) := by decide +kernel
theorem dX11_least_36 : decode cX11_least 36 = .ok (.ifCond .ge 32, 3) := by decide +kernel
theorem dX11_least_39 : decode cX11_least 39 = .ok (.aload_n 0, 1) := by decide +kernel
theorem dX11_least_40 : decode cX11_least 40 = .ok (.iload_n 1, 1) := by decide +kernel
theorem dX11_least_41 : decode cX11_least 41 = .ok (.iload_n 2, 1) := by decide +kernel
theorem dX11_least_42 : decode cX11_least 42 = .ok (.iload 5, 2) := by decide +kernel
theorem dX11_least_44 : decode cX11_least 44 = .ok (.invokevirtual 271, 3) := by decide +kernel
theorem dX11_least_47 : decode cX11_least 47 = .ok (.aload_n 0, 1) := by decide +kernel
theorem dX11_least_48 : decode cX11_least 48 = .ok (.getfield 262, 3) := by decide +kernel
theorem dX11_least_51 : decode cX11_least 51 = .ok (.ifCond .ge 7, 3) := by decide +kernel
theorem dX11_least_54 : decode cX11_least 54 = .ok (.iconst (-1), 1) := by decide +kernel
theorem dX11_least_55 : decode cX11_least 55 = .ok (.goto 5, 3) := by decide +kernel
theorem dX11_least_58 : decode cX11_least 58 = .ok (.iload 5, 2) := by decide +kernel
theorem dX11_least_60 : decode cX11_least 60 = .ok (.istore 4, 2) := by decide +kernel
theorem dX11_least_62 : decode cX11_least 62 = .ok (.iinc 5 1, 3) := by decide +kernel
theorem dX11_least_65 : decode cX11_least 65 = .ok (.goto (-38), 3) := by decide +kernel
theorem dX11_least_68 : decode cX11_least 68 = .ok (.aload_n 0, 1) := by decide +kernel
theorem dX11_least_69 : decode cX11_least 69 = .ok (.iconst 0, 1) := by decide +kernel
theorem dX11_least_70 : decode cX11_least 70 = .ok (.putfield 57, 3) := by decide +kernel
theorem dX11_least_73 : decode cX11_least 73 = .ok (.iload 4, 2) := by decide +kernel
theorem dX11_least_75 : decode cX11_least 75 = .ok (.ifCond .ge 12, 3) := by decide +kernel
theorem dX11_least_78 : decode cX11_least 78 = .ok (.aload_n 0, 1) := by decide +kernel
theorem dX11_least_79 : decode cX11_least 79 = .ok (.ldc 126, 2) := by decide +kernel
theorem dX11_least_81 : decode cX11_least 81 = .ok (.invokevirtual 94, 3) := by decide +kernel
theorem dX11_least_84 : decode cX11_least 84 = .ok (.goto 5, 3) := by decide +kernel
theorem dX11_least_87 : decode cX11_least 87 = .ok (.iload 4, 2) := by decide +kernel
theorem dX11_least_89 : decode cX11_least 89 = .ok (.ireturn, 1) := by decide +kernel
theorem dX11_basin_0 : decode cX11_basin 0 = .ok (.iload_n 1, 1) := by decide +kernel
theorem dX11_basin_1 : decode cX11_basin 1 = .ok (.iload_n 3, 1) := by decide +kernel
theorem dX11_basin_2 : decode cX11_basin 2 = .ok (.iload_n 2, 1) := by decide +kernel
theorem dX11_basin_3 : decode cX11_basin 3 = .ok (.invokestatic 268, 3) := by decide +kernel
theorem dX11_basin_6 : decode cX11_basin 6 = .ok (.ifCond .ne 10, 3) := by decide +kernel
theorem dX11_basin_9 : decode cX11_basin 9 = .ok (.aload_n 0, 1) := by decide +kernel
theorem dX11_basin_10 : decode cX11_basin 10 = .ok (.ldc 40, 2) := by decide +kernel
theorem dX11_basin_12 : decode cX11_basin 12 = .ok (.invokevirtual 94, 3) := by decide +kernel
theorem dX11_basin_15 : decode cX11_basin 15 = .ok (.ireturn, 1) := by decide +kernel
theorem dX11_basin_16 : decode cX11_basin 16 = .ok (.iconst 0, 1) := by decide +kernel
theorem dX11_basin_17 : decode cX11_basin 17 = .ok (.istore 4, 2) := by decide +kernel
theorem dX11_basin_19 : decode cX11_basin 19 = .ok (.iconst 0, 1) := by decide +kernel
theorem dX11_basin_20 : decode cX11_basin 20 = .ok (.istore 5, 2) := by decide +kernel
theorem dX11_basin_22 : decode cX11_basin 22 = .ok (.iload 5, 2) := by decide +kernel
theorem dX11_basin_24 : decode cX11_basin 24 = .ok (.bipush 12, 2) := by decide +kernel
theorem dX11_basin_26 : decode cX11_basin 26 = .ok (.if_icmp .ge 38, 3) := by decide +kernel
theorem dX11_basin_29 : decode cX11_basin 29 = .ok (.aload_n 0, 1) := by decide +kernel
theorem dX11_basin_30 : decode cX11_basin 30 = .ok (.iload_n 1, 1) := by decide +kernel
theorem dX11_basin_31 : decode cX11_basin 31 = .ok (.iload 5, 2) := by decide +kernel
theorem dX11_basin_33 : decode cX11_basin 33 = .ok (.iload_n 2, 1) := by decide +kernel
theorem dX11_basin_34 : decode cX11_basin 34 = .ok (.invokevirtual 271, 3) := by decide +kernel
theorem dX11_basin_37 : decode cX11_basin 37 = .ok (.iload 4, 2) := by decide +kernel
theorem dX11_basin_39 : decode cX11_basin 39 = .ok (.aload_n 0, 1) := by decide +kernel
theorem dX11_basin_40 : decode cX11_basin 40 = .ok (.getfield 262, 3) := by decide +kernel
theorem dX11_basin_43 : decode cX11_basin 43 = .ok (.iload_n 3, 1) := by decide +kernel
theorem dX11_basin_44 : decode cX11_basin 44 = .ok (.if_icmp .ne 10, 3) := by decide +kernel
theorem dX11_basin_47 : decode cX11_basin 47 = .ok (.iconst 1, 1) := by decide +kernel
theorem dX11_basin_48 : decode cX11_basin 48 = .ok (.iload 5, 2) := by decide +kernel
theorem dX11_basin_50 : decode cX11_basin 50 = .ok (.ishl, 1) := by decide +kernel
theorem dX11_basin_51 : decode cX11_basin 51 = .ok (.goto 4, 3) := by decide +kernel
theorem dX11_basin_54 : decode cX11_basin 54 = .ok (.iconst 0, 1) := by decide +kernel
theorem dX11_basin_55 : decode cX11_basin 55 = .ok (.ior, 1) := by decide +kernel
theorem dX11_basin_56 : decode cX11_basin 56 = .ok (.istore 4, 2) := by decide +kernel
theorem dX11_basin_58 : decode cX11_basin 58 = .ok (.iinc 5 1, 3) := by decide +kernel
theorem dX11_basin_61 : decode cX11_basin 61 = .ok (.goto (-39), 3) := by decide +kernel
theorem dX11_basin_64 : decode cX11_basin 64 = .ok (.iload 4, 2) := by decide +kernel
theorem dX11_basin_66 : decode cX11_basin 66 = .ok (.ireturn, 1) := by decide +kernel
theorem dX11_ways_0 : decode cX11_ways 0 = .ok (.iload_n 1, 1) := by decide +kernel
theorem dX11_ways_1 : decode cX11_ways 1 = .ok (.iconst 0, 1) := by decide +kernel
theorem dX11_ways_2 : decode cX11_ways 2 = .ok (.iload_n 2, 1) := by decide +kernel
theorem dX11_ways_3 : decode cX11_ways 3 = .ok (.invokestatic 268, 3) := by decide +kernel
theorem dX11_ways_6 : decode cX11_ways 6 = .ok (.ifCond .ne 10, 3) := by decide +kernel
theorem dX11_ways_9 : decode cX11_ways 9 = .ok (.aload_n 0, 1) := by decide +kernel
theorem dX11_ways_10 : decode cX11_ways 10 = .ok (.ldc 40, 2) := by decide +kernel
theorem dX11_ways_12 : decode cX11_ways 12 = .ok (.invokevirtual 94, 3) := by decide +kernel
theorem dX11_ways_15 : decode cX11_ways 15 = .ok (.ireturn, 1) := by decide +kernel
theorem dX11_ways_16 : decode cX11_ways 16 = .ok (.iconst 0, 1) := by decide +kernel
theorem dX11_ways_17 : decode cX11_ways 17 = .ok (.istore_n 3, 1) := by decide +kernel
theorem dX11_ways_18 : decode cX11_ways 18 = .ok (.iconst 0, 1) := by decide +kernel
theorem dX11_ways_19 : decode cX11_ways 19 = .ok (.istore 4, 2) := by decide +kernel
theorem dX11_ways_21 : decode cX11_ways 21 = .ok (.iload 4, 2) := by decide +kernel
theorem dX11_ways_23 : decode cX11_ways 23 = .ok (.bipush 12, 2) := by decide +kernel
theorem dX11_ways_25 : decode cX11_ways 25 = .ok (.if_icmp .ge 37, 3) := by decide +kernel
theorem dX11_ways_28 : decode cX11_ways 28 = .ok (.aload_n 0, 1) := by decide +kernel
theorem dX11_ways_29 : decode cX11_ways 29 = .ok (.iload_n 1, 1) := by decide +kernel
theorem dX11_ways_30 : decode cX11_ways 30 = .ok (.iload 4, 2) := by decide +kernel
theorem dX11_ways_32 : decode cX11_ways 32 = .ok (.iload_n 2, 1) := by decide +kernel
theorem dX11_ways_33 : decode cX11_ways 33 = .ok (.invokevirtual 271, 3) := by decide +kernel
theorem dX11_ways_36 : decode cX11_ways 36 = .ok (.iload_n 3, 1) := by decide +kernel
theorem dX11_ways_37 : decode cX11_ways 37 = .ok (.aload_n 0, 1) := by decide +kernel
theorem dX11_ways_38 : decode cX11_ways 38 = .ok (.getfield 262, 3) := by decide +kernel
theorem dX11_ways_41 : decode cX11_ways 41 = .ok (.ifCond .ge 7, 3) := by decide +kernel
theorem dX11_ways_44 : decode cX11_ways 44 = .ok (.iconst 0, 1) := by decide +kernel
theorem dX11_ways_45 : decode cX11_ways 45 = .ok (.goto 9, 3) := by decide +kernel
theorem dX11_ways_48 : decode cX11_ways 48 = .ok (.iconst 1, 1) := by decide +kernel
theorem dX11_ways_49 : decode cX11_ways 49 = .ok (.aload_n 0, 1) := by decide +kernel
theorem dX11_ways_50 : decode cX11_ways 50 = .ok (.getfield 262, 3) := by decide +kernel
theorem dX11_ways_53 : decode cX11_ways 53 = .ok (.ishl, 1) := by decide +kernel
theorem dX11_ways_54 : decode cX11_ways 54 = .ok (.ior, 1) := by decide +kernel
theorem dX11_ways_55 : decode cX11_ways 55 = .ok (.istore_n 3, 1) := by decide +kernel
theorem dX11_ways_56 : decode cX11_ways 56 = .ok (.iinc 4 1, 3) := by decide +kernel
theorem dX11_ways_59 : decode cX11_ways 59 = .ok (.goto (-38), 3) := by decide +kernel
theorem dX11_ways_62 : decode cX11_ways 62 = .ok (.iload_n 3, 1) := by decide +kernel
theorem dX11_ways_63 : decode cX11_ways 63 = .ok (.ireturn, 1) := by decide +kernel
theorem dX11_soonest_0 : decode cX11_soonest 0 = .ok (.iload_n 1, 1) := by decide +kernel
theorem dX11_soonest_1 : decode cX11_soonest 1 = .ok (.iload_n 2, 1) := by decide +kernel
theorem dX11_soonest_2 : decode cX11_soonest 2 = .ok (.iload_n 3, 1) := by decide +kernel
theorem dX11_soonest_3 : decode cX11_soonest 3 = .ok (.invokestatic 268, 3) := by decide +kernel
theorem dX11_soonest_6 : decode cX11_soonest 6 = .ok (.ifCond .ne 10, 3) := by decide +kernel
theorem dX11_soonest_9 : decode cX11_soonest 9 = .ok (.aload_n 0, 1) := by decide +kernel
theorem dX11_soonest_10 : decode cX11_soonest 10 = .ok (.ldc 40, 2) := by decide +kernel
theorem dX11_soonest_12 : decode cX11_soonest 12 = .ok (.invokevirtual 94, 3) := by decide +kernel
theorem dX11_soonest_15 : decode cX11_soonest 15 = .ok (.ireturn, 1) := by decide +kernel
theorem dX11_soonest_16 : decode cX11_soonest 16 = .ok (.aload_n 0, 1) := by decide +kernel
theorem dX11_soonest_17 : decode cX11_soonest 17 = .ok (.getfield 9, 3) := by decide +kernel
theorem dX11_soonest_20 : decode cX11_soonest 20 = .ok (.iconst 0, 1) := by decide +kernel
theorem dX11_soonest_21 : decode cX11_soonest 21 = .ok (.iaload, 1) := by decide +kernel
theorem dX11_soonest_22 : decode cX11_soonest 22 = .ok (.istore 4, 2) := by decide +kernel
theorem dX11_soonest_24 : decode cX11_soonest 24 = .ok (.iconst (-1), 1) := by decide +kernel
theorem dX11_soonest_25 : decode cX11_soonest 25 = .ok (.istore 5, 2) := by decide +kernel
theorem dX11_soonest_27 : decode cX11_soonest 27 = .ok (.iconst 0, 1) := by decide +kernel
theorem dX11_soonest_28 : decode cX11_soonest 28 = .ok (.istore 6, 2) := by decide +kernel
theorem dX11_soonest_30 : decode cX11_soonest 30 = .ok (.iconst 0, 1) := by decide +kernel
theorem dX11_soonest_31 : decode cX11_soonest 31 = .ok (.istore 7, 2) := by decide +kernel
theorem dX11_soonest_33 : decode cX11_soonest 33 = .ok (.iload 7, 2) := by decide +kernel
theorem dX11_soonest_35 : decode cX11_soonest 35 = .ok (.bipush 10, 2) := by decide +kernel
theorem dX11_soonest_37 : decode cX11_soonest 37 = .ok (.if_icmp .ge 58, 3) := by decide +kernel
theorem dX11_soonest_40 : decode cX11_soonest 40 = .ok (.aload_n 0, 1) := by decide +kernel
theorem dX11_soonest_41 : decode cX11_soonest 41 = .ok (.getfield 9, 3) := by decide +kernel
theorem dX11_soonest_44 : decode cX11_soonest 44 = .ok (.iconst 0, 1) := by decide +kernel
theorem dX11_soonest_45 : decode cX11_soonest 45 = .ok (.iload 7, 2) := by decide +kernel
theorem dX11_soonest_47 : decode cX11_soonest 47 = .ok (.iastore, 1) := by decide +kernel
theorem dX11_soonest_48 : decode cX11_soonest 48 = .ok (.aload_n 0, 1) := by decide +kernel
theorem dX11_soonest_49 : decode cX11_soonest 49 = .ok (.iload_n 1, 1) := by decide +kernel
theorem dX11_soonest_50 : decode cX11_soonest 50 = .ok (.iload_n 2, 1) := by decide +kernel
theorem dX11_soonest_51 : decode cX11_soonest 51 = .ok (.iload_n 3, 1) := by decide +kernel
theorem dX11_soonest_52 : decode cX11_soonest 52 = .ok (.invokevirtual 271, 3) := by decide +kernel
theorem dX11_soonest_55 : decode cX11_soonest 55 = .ok (.aload_n 0, 1) := by decide +kernel
theorem dX11_soonest_56 : decode cX11_soonest 56 = .ok (.getfield 262, 3) := by decide +kernel
theorem dX11_soonest_59 : decode cX11_soonest 59 = .ok (.ifCond .lt 30, 3) := by decide +kernel
theorem dX11_soonest_62 : decode cX11_soonest 62 = .ok (.iload 5, 2) := by decide +kernel
theorem dX11_soonest_64 : decode cX11_soonest 64 = .ok (.ifCond .lt 15, 3) := by decide +kernel
theorem dX11_soonest_67 : decode cX11_soonest 67 = .ok (.aload_n 0, 1) := by decide +kernel
theorem dX11_soonest_68 : decode cX11_soonest 68 = .ok (.getfield 259, 3) := by decide +kernel
theorem dX11_soonest_71 : decode cX11_soonest 71 = .ok (.iload 6, 2) := by decide +kernel
theorem dX11_soonest_73 : decode cX11_soonest 73 = .ok (.if_icmp .lt 6, 3) := by decide +kernel
theorem dX11_soonest_76 : decode cX11_soonest 76 = .ok (.goto 13, 3) := by decide +kernel
theorem dX11_soonest_79 : decode cX11_soonest 79 = .ok (.iload 7, 2) := by decide +kernel
theorem dX11_soonest_81 : decode cX11_soonest 81 = .ok (.istore 5, 2) := by decide +kernel
theorem dX11_soonest_83 : decode cX11_soonest 83 = .ok (.aload_n 0, 1) := by decide +kernel
theorem dX11_soonest_84 : decode cX11_soonest 84 = .ok (.getfield 259, 3) := by decide +kernel
theorem dX11_soonest_87 : decode cX11_soonest 87 = .ok (.istore 6, 2) := by decide +kernel
theorem dX11_soonest_89 : decode cX11_soonest 89 = .ok (.iinc 7 1, 3) := by decide +kernel
theorem dX11_soonest_92 : decode cX11_soonest 92 = .ok (.goto (-59), 3) := by decide +kernel
theorem dX11_soonest_95 : decode cX11_soonest 95 = .ok (.aload_n 0, 1) := by decide +kernel
theorem dX11_soonest_96 : decode cX11_soonest 96 = .ok (.getfield 9, 3) := by decide +kernel
theorem dX11_soonest_99 : decode cX11_soonest 99 = .ok (.iconst 0, 1) := by decide +kernel
theorem dX11_soonest_100 : decode cX11_soonest 100 = .ok (.iload 4, 2) := by decide +kernel
theorem dX11_soonest_102 : decode cX11_soonest 102 = .ok (.iastore, 1) := by decide +kernel
theorem dX11_soonest_103 : decode cX11_soonest 103 = .ok (.iload 5, 2) := by decide +kernel
theorem dX11_soonest_105 : decode cX11_soonest 105 = .ok (.ifCond .ge 12, 3) := by decide +kernel
theorem dX11_soonest_108 : decode cX11_soonest 108 = .ok (.aload_n 0, 1) := by decide +kernel
theorem dX11_soonest_109 : decode cX11_soonest 109 = .ok (.ldc 126, 2) := by decide +kernel
theorem dX11_soonest_111 : decode cX11_soonest 111 = .ok (.invokevirtual 94, 3) := by decide +kernel
theorem dX11_soonest_114 : decode cX11_soonest 114 = .ok (.goto 5, 3) := by decide +kernel
theorem dX11_soonest_117 : decode cX11_soonest 117 = .ok (.iload 5, 2) := by decide +kernel
theorem dX11_soonest_119 : decode cX11_soonest 119 = .ok (.ireturn, 1) := by decide +kernel
theorem dX11_meet_0 : decode cX11_meet 0 = .ok (.iload_n 1, 1) := by decide +kernel
theorem dX11_meet_1 : decode cX11_meet 1 = .ok (.iload_n 2, 1) := by decide +kernel
theorem dX11_meet_2 : decode cX11_meet 2 = .ok (.iload 4, 2) := by decide +kernel
theorem dX11_meet_4 : decode cX11_meet 4 = .ok (.invokestatic 268, 3) := by decide +kernel
theorem dX11_meet_7 : decode cX11_meet 7 = .ok (.ifCond .eq 15, 3) := by decide +kernel
theorem dX11_meet_10 : decode cX11_meet 10 = .ok (.iload_n 3, 1) := by decide +kernel
theorem dX11_meet_11 : decode cX11_meet 11 = .ok (.invokestatic 120, 3) := by decide +kernel
theorem dX11_meet_14 : decode cX11_meet 14 = .ok (.ifCond .eq 8, 3) := by decide +kernel
theorem dX11_meet_17 : decode cX11_meet 17 = .ok (.iload_n 2, 1) := by decide +kernel
theorem dX11_meet_18 : decode cX11_meet 18 = .ok (.iload_n 3, 1) := by decide +kernel
theorem dX11_meet_19 : decode cX11_meet 19 = .ok (.if_icmp .ne 10, 3) := by decide +kernel
theorem dX11_meet_22 : decode cX11_meet 22 = .ok (.aload_n 0, 1) := by decide +kernel
theorem dX11_meet_23 : decode cX11_meet 23 = .ok (.ldc 40, 2) := by decide +kernel
theorem dX11_meet_25 : decode cX11_meet 25 = .ok (.invokevirtual 94, 3) := by decide +kernel
theorem dX11_meet_28 : decode cX11_meet 28 = .ok (.ireturn, 1) := by decide +kernel
theorem dX11_meet_29 : decode cX11_meet 29 = .ok (.aload_n 0, 1) := by decide +kernel
theorem dX11_meet_30 : decode cX11_meet 30 = .ok (.iload_n 1, 1) := by decide +kernel
theorem dX11_meet_31 : decode cX11_meet 31 = .ok (.iload_n 2, 1) := by decide +kernel
theorem dX11_meet_32 : decode cX11_meet 32 = .ok (.iload 4, 2) := by decide +kernel
theorem dX11_meet_34 : decode cX11_meet 34 = .ok (.invokevirtual 271, 3) := by decide +kernel
theorem dX11_meet_37 : decode cX11_meet 37 = .ok (.aload_n 0, 1) := by decide +kernel
theorem dX11_meet_38 : decode cX11_meet 38 = .ok (.invokevirtual 274, 3) := by decide +kernel
theorem dX11_meet_41 : decode cX11_meet 41 = .ok (.istore 5, 2) := by decide +kernel
theorem dX11_meet_43 : decode cX11_meet 43 = .ok (.iconst 0, 1) := by decide +kernel
theorem dX11_meet_44 : decode cX11_meet 44 = .ok (.istore 6, 2) := by decide +kernel
theorem dX11_meet_46 : decode cX11_meet 46 = .ok (.iload 6, 2) := by decide +kernel
theorem dX11_meet_48 : decode cX11_meet 48 = .ok (.iload 5, 2) := by decide +kernel
theorem dX11_meet_50 : decode cX11_meet 50 = .ok (.if_icmp .gt 23, 3) := by decide +kernel
theorem dX11_meet_53 : decode cX11_meet 53 = .ok (.aload_n 0, 1) := by decide +kernel
theorem dX11_meet_54 : decode cX11_meet 54 = .ok (.getfield 25, 3) := by decide +kernel
theorem dX11_meet_57 : decode cX11_meet 57 = .ok (.iload 6, 2) := by decide +kernel
theorem dX11_meet_59 : decode cX11_meet 59 = .ok (.aload_n 0, 1) := by decide +kernel
theorem dX11_meet_60 : decode cX11_meet 60 = .ok (.getfield 22, 3) := by decide +kernel
theorem dX11_meet_63 : decode cX11_meet 63 = .ok (.iload 6, 2) := by decide +kernel
theorem dX11_meet_65 : decode cX11_meet 65 = .ok (.iaload, 1) := by decide +kernel
theorem dX11_meet_66 : decode cX11_meet 66 = .ok (.iastore, 1) := by decide +kernel
theorem dX11_meet_67 : decode cX11_meet 67 = .ok (.iinc 6 1, 3) := by decide +kernel
theorem dX11_meet_70 : decode cX11_meet 70 = .ok (.goto (-24), 3) := by decide +kernel
theorem dX11_meet_73 : decode cX11_meet 73 = .ok (.aload_n 0, 1) := by decide +kernel
theorem dX11_meet_74 : decode cX11_meet 74 = .ok (.iload_n 1, 1) := by decide +kernel
theorem dX11_meet_75 : decode cX11_meet 75 = .ok (.iload_n 3, 1) := by decide +kernel
theorem dX11_meet_76 : decode cX11_meet 76 = .ok (.iload 4, 2) := by decide +kernel
theorem dX11_meet_78 : decode cX11_meet 78 = .ok (.invokevirtual 271, 3) := by decide +kernel
theorem dX11_meet_81 : decode cX11_meet 81 = .ok (.iconst 0, 1) := by decide +kernel
theorem dX11_meet_82 : decode cX11_meet 82 = .ok (.istore 6, 2) := by decide +kernel
theorem dX11_meet_84 : decode cX11_meet 84 = .ok (.iload 6, 2) := by decide +kernel
theorem dX11_meet_86 : decode cX11_meet 86 = .ok (.iload 5, 2) := by decide +kernel
theorem dX11_meet_88 : decode cX11_meet 88 = .ok (.if_icmp .gt 38, 3) := by decide +kernel
theorem dX11_meet_91 : decode cX11_meet 91 = .ok (.iload 6, 2) := by decide +kernel
theorem dX11_meet_93 : decode cX11_meet 93 = .ok (.aload_n 0, 1) := by decide +kernel
theorem dX11_meet_94 : decode cX11_meet 94 = .ok (.invokevirtual 274, 3) := by decide +kernel
theorem dX11_meet_97 : decode cX11_meet 97 = .ok (.if_icmp .gt 29, 3) := by decide +kernel
theorem dX11_meet_100 : decode cX11_meet 100 = .ok (.aload_n 0, 1) := by decide +kernel
theorem dX11_meet_101 : decode cX11_meet 101 = .ok (.getfield 25, 3) := by decide +kernel
theorem dX11_meet_104 : decode cX11_meet 104 = .ok (.iload 6, 2) := by decide +kernel
theorem dX11_meet_106 : decode cX11_meet 106 = .ok (.iaload, 1) := by decide +kernel
theorem dX11_meet_107 : decode cX11_meet 107 = .ok (.aload_n 0, 1) := by decide +kernel
theorem dX11_meet_108 : decode cX11_meet 108 = .ok (.getfield 22, 3) := by decide +kernel
theorem dX11_meet_111 : decode cX11_meet 111 = .ok (.iload 6, 2) := by decide +kernel
theorem dX11_meet_113 : decode cX11_meet 113 = .ok (.iaload, 1) := by decide +kernel
theorem dX11_meet_114 : decode cX11_meet 114 = .ok (.if_icmp .ne 6, 3) := by decide +kernel
theorem dX11_meet_117 : decode cX11_meet 117 = .ok (.iload 6, 2) := by decide +kernel
theorem dX11_meet_119 : decode cX11_meet 119 = .ok (.ireturn, 1) := by decide +kernel
theorem dX11_meet_120 : decode cX11_meet 120 = .ok (.iinc 6 1, 3) := by decide +kernel
theorem dX11_meet_123 : decode cX11_meet 123 = .ok (.goto (-39), 3) := by decide +kernel
theorem dX11_meet_126 : decode cX11_meet 126 = .ok (.aload_n 0, 1) := by decide +kernel
theorem dX11_meet_127 : decode cX11_meet 127 = .ok (.ldc 126, 2) := by decide +kernel
theorem dX11_meet_129 : decode cX11_meet 129 = .ok (.invokevirtual 94, 3) := by decide +kernel
theorem dX11_meet_132 : decode cX11_meet 132 = .ok (.ireturn, 1) := by decide +kernel
theorem dX11_edge_0 : decode cX11_edge 0 = .ok (.iload_n 1, 1) := by decide +kernel
theorem dX11_edge_1 : decode cX11_edge 1 = .ok (.invokestatic 88, 3) := by decide +kernel
theorem dX11_edge_4 : decode cX11_edge 4 = .ok (.ifCond .eq 13, 3) := by decide +kernel
theorem dX11_edge_7 : decode cX11_edge 7 = .ok (.iload_n 2, 1) := by decide +kernel
theorem dX11_edge_8 : decode cX11_edge 8 = .ok (.iload_n 3, 1) := by decide +kernel
theorem dX11_edge_9 : decode cX11_edge 9 = .ok (.bipush 20, 2) := by decide +kernel
theorem dX11_edge_11 : decode cX11_edge 11 = .ok (.invokestatic 268, 3) := by decide +kernel
theorem dX11_edge_14 : decode cX11_edge 14 = .ok (.ifCond .ne 10, 3) := by decide +kernel
theorem dX11_edge_17 : decode cX11_edge 17 = .ok (.aload_n 0, 1) := by decide +kernel
theorem dX11_edge_18 : decode cX11_edge 18 = .ok (.ldc 40, 2) := by decide +kernel
theorem dX11_edge_20 : decode cX11_edge 20 = .ok (.invokevirtual 94, 3) := by decide +kernel
theorem dX11_edge_23 : decode cX11_edge 23 = .ok (.ireturn, 1) := by decide +kernel
theorem dX11_edge_24 : decode cX11_edge 24 = .ok (.aload_n 0, 1) := by decide +kernel
theorem dX11_edge_25 : decode cX11_edge 25 = .ok (.getfield 9, 3) := by decide +kernel
theorem dX11_edge_28 : decode cX11_edge 28 = .ok (.bipush 18, 2) := by decide +kernel
theorem dX11_edge_30 : decode cX11_edge 30 = .ok (.iload_n 1, 1) := by decide +kernel
theorem dX11_edge_31 : decode cX11_edge 31 = .ok (.iadd, 1) := by decide +kernel
theorem dX11_edge_32 : decode cX11_edge 32 = .ok (.iaload, 1) := by decide +kernel
theorem dX11_edge_33 : decode cX11_edge 33 = .ok (.istore 4, 2) := by decide +kernel
theorem dX11_edge_35 : decode cX11_edge 35 = .ok (.iconst (-1), 1) := by decide +kernel
theorem dX11_edge_36 : decode cX11_edge 36 = .ok (.istore 5, 2) := by decide +kernel
theorem dX11_edge_38 : decode cX11_edge 38 = .ok (.iconst 0, 1) := by decide +kernel
theorem dX11_edge_39 : decode cX11_edge 39 = .ok (.istore 6, 2) := by decide +kernel
theorem dX11_edge_41 : decode cX11_edge 41 = .ok (.iload 6, 2) := by decide +kernel
theorem dX11_edge_43 : decode cX11_edge 43 = .ok (.bipush 10, 2) := by decide +kernel
theorem dX11_edge_45 : decode cX11_edge 45 = .ok (.if_icmp .ge 44, 3) := by decide +kernel
theorem dX11_edge_48 : decode cX11_edge 48 = .ok (.aload_n 0, 1) := by decide +kernel
theorem dX11_edge_49 : decode cX11_edge 49 = .ok (.getfield 9, 3) := by decide +kernel
theorem dX11_edge_52 : decode cX11_edge 52 = .ok (.bipush 18, 2) := by decide +kernel
theorem dX11_edge_54 : decode cX11_edge 54 = .ok (.iload_n 1, 1) := by decide +kernel
theorem dX11_edge_55 : decode cX11_edge 55 = .ok (.iadd, 1) := by decide +kernel
theorem dX11_edge_56 : decode cX11_edge 56 = .ok (.iload 6, 2) := by decide +kernel
theorem dX11_edge_58 : decode cX11_edge 58 = .ok (.iastore, 1) := by decide +kernel
theorem dX11_edge_59 : decode cX11_edge 59 = .ok (.aload_n 0, 1) := by decide +kernel
theorem dX11_edge_60 : decode cX11_edge 60 = .ok (.iload_n 2, 1) := by decide +kernel
theorem dX11_edge_61 : decode cX11_edge 61 = .ok (.iload_n 3, 1) := by decide +kernel
theorem dX11_edge_62 : decode cX11_edge 62 = .ok (.bipush 20, 2) := by decide +kernel
theorem dX11_edge_64 : decode cX11_edge 64 = .ok (.invokevirtual 271, 3) := by decide +kernel
theorem dX11_edge_67 : decode cX11_edge 67 = .ok (.aload_n 0, 1) := by decide +kernel
theorem dX11_edge_68 : decode cX11_edge 68 = .ok (.getfield 262, 3) := by decide +kernel
theorem dX11_edge_71 : decode cX11_edge 71 = .ok (.ifCond .ge 8, 3) := by decide +kernel
theorem dX11_edge_74 : decode cX11_edge 74 = .ok (.iload 5, 2) := by decide +kernel
theorem dX11_edge_76 : decode cX11_edge 76 = .ok (.goto 5, 3) := by decide +kernel
theorem dX11_edge_79 : decode cX11_edge 79 = .ok (.iload 6, 2) := by decide +kernel
theorem dX11_edge_81 : decode cX11_edge 81 = .ok (.istore 5, 2) := by decide +kernel
theorem dX11_edge_83 : decode cX11_edge 83 = .ok (.iinc 6 1, 3) := by decide +kernel
theorem dX11_edge_86 : decode cX11_edge 86 = .ok (.goto (-45), 3) := by decide +kernel
theorem dX11_edge_89 : decode cX11_edge 89 = .ok (.aload_n 0, 1) := by decide +kernel
theorem dX11_edge_90 : decode cX11_edge 90 = .ok (.getfield 9, 3) := by decide +kernel
theorem dX11_edge_93 : decode cX11_edge 93 = .ok (.bipush 18, 2) := by decide +kernel
theorem dX11_edge_95 : decode cX11_edge 95 = .ok (.iload_n 1, 1) := by decide +kernel
theorem dX11_edge_96 : decode cX11_edge 96 = .ok (.iadd, 1) := by decide +kernel
theorem dX11_edge_97 : decode cX11_edge 97 = .ok (.iload 4, 2) := by decide +kernel
theorem dX11_edge_99 : decode cX11_edge 99 = .ok (.iastore, 1) := by decide +kernel
theorem dX11_edge_100 : decode cX11_edge 100 = .ok (.iload 5, 2) := by decide +kernel
theorem dX11_edge_102 : decode cX11_edge 102 = .ok (.ifCond .ge 12, 3) := by decide +kernel
theorem dX11_edge_105 : decode cX11_edge 105 = .ok (.aload_n 0, 1) := by decide +kernel
theorem dX11_edge_106 : decode cX11_edge 106 = .ok (.ldc 126, 2) := by decide +kernel
theorem dX11_edge_108 : decode cX11_edge 108 = .ok (.invokevirtual 94, 3) := by decide +kernel
theorem dX11_edge_111 : decode cX11_edge 111 = .ok (.goto 5, 3) := by decide +kernel
theorem dX11_edge_114 : decode cX11_edge 114 = .ok (.iload 5, 2) := by decide +kernel
theorem dX11_edge_116 : decode cX11_edge 116 = .ok (.ireturn, 1) := by decide +kernel
theorem dX11_findSums_0 : decode cX11_findSums 0 = .ok (.sipush 191, 3) := by decide +kernel
theorem dX11_findSums_3 : decode cX11_findSums 3 = .ok (.istore_n 1, 1) := by decide +kernel
theorem dX11_findSums_4 : decode cX11_findSums 4 = .ok (.iload_n 1, 1) := by decide +kernel
theorem dX11_findSums_5 : decode cX11_findSums 5 = .ok (.ifCond .lt 97, 3) := by decide +kernel
theorem dX11_findSums_8 : decode cX11_findSums 8 = .ok (.aload_n 0, 1) := by decide +kernel
theorem dX11_findSums_9 : decode cX11_findSums 9 = .ok (.getfield 28, 3) := by decide +kernel
theorem dX11_findSums_12 : decode cX11_findSums 12 = .ok (.iload_n 1, 1) := by decide +kernel
theorem dX11_findSums_13 : decode cX11_findSums 13 = .ok (.iconst 0, 1) := by decide +kernel
theorem dX11_findSums_14 : decode cX11_findSums 14 = .ok (.iastore, 1) := by decide +kernel
theorem dX11_findSums_15 : decode cX11_findSums 15 = .ok (.iload_n 1, 1) := by decide +kernel
theorem dX11_findSums_16 : decode cX11_findSums 16 = .ok (.sipush 180, 3) := by decide +kernel
theorem dX11_findSums_19 : decode cX11_findSums 19 = .ok (.if_icmp .lt 6, 3) := by decide +kernel
theorem dX11_findSums_22 : decode cX11_findSums 22 = .ok (.goto 74, 3) := by decide +kernel
theorem dX11_findSums_25 : decode cX11_findSums 25 = .ok (.aload_n 0, 1) := by decide +kernel
theorem dX11_findSums_26 : decode cX11_findSums 26 = .ok (.getfield 28, 3) := by decide +kernel
theorem dX11_findSums_29 : decode cX11_findSums 29 = .ok (.iload_n 1, 1) := by decide +kernel
theorem dX11_findSums_30 : decode cX11_findSums 30 = .ok (.ldc_w 281, 3) := by decide +kernel
theorem dX11_findSums_33 : decode cX11_findSums 33 = .ok (.iastore, 1) := by decide +kernel
theorem dX11_findSums_34 : decode cX11_findSums 34 = .ok (.iconst 0, 1) := by decide +kernel
theorem dX11_findSums_35 : decode cX11_findSums 35 = .ok (.istore_n 2, 1) := by decide +kernel
theorem dX11_findSums_36 : decode cX11_findSums 36 = .ok (.iload_n 2, 1) := by decide +kernel
theorem dX11_findSums_37 : decode cX11_findSums 37 = .ok (.iconst 3, 1) := by decide +kernel
theorem dX11_findSums_38 : decode cX11_findSums 38 = .ok (.if_icmp .ge 58, 3) := by decide +kernel
theorem dX11_findSums_41 : decode cX11_findSums 41 = .ok (.iload_n 1, 1) := by decide +kernel
theorem dX11_findSums_42 : decode cX11_findSums 42 = .ok (.iload_n 2, 1) := by decide +kernel
theorem dX11_findSums_43 : decode cX11_findSums 43 = .ok (.invokestatic 68, 3) := by decide +kernel
theorem dX11_findSums_46 : decode cX11_findSums 46 = .ok (.istore_n 3, 1) := by decide +kernel
theorem dX11_findSums_47 : decode cX11_findSums 47 = .ok (.iload_n 3, 1) := by decide +kernel
theorem dX11_findSums_48 : decode cX11_findSums 48 = .ok (.ifCond .lt 42, 3) := by decide +kernel
theorem dX11_findSums_51 : decode cX11_findSums 51 = .ok (.aload_n 0, 1) := by decide +kernel
theorem dX11_findSums_52 : decode cX11_findSums 52 = .ok (.iload_n 3, 1) := by decide +kernel
theorem dX11_findSums_53 : decode cX11_findSums 53 = .ok (.invokevirtual 65, 3) := by decide +kernel
theorem dX11_findSums_56 : decode cX11_findSums 56 = .ok (.aload_n 0, 1) := by decide +kernel
theorem dX11_findSums_57 : decode cX11_findSums 57 = .ok (.getfield 28, 3) := by decide +kernel
theorem dX11_findSums_60 : decode cX11_findSums 60 = .ok (.iload_n 3, 1) := by decide +kernel
theorem dX11_findSums_61 : decode cX11_findSums 61 = .ok (.iaload, 1) := by decide +kernel
theorem dX11_findSums_62 : decode cX11_findSums 62 = .ok (.iadd, 1) := by decide +kernel
theorem dX11_findSums_63 : decode cX11_findSums 63 = .ok (.aload_n 0, 1) := by decide +kernel
theorem dX11_findSums_64 : decode cX11_findSums 64 = .ok (.getfield 28, 3) := by decide +kernel
theorem dX11_findSums_67 : decode cX11_findSums 67 = .ok (.iload_n 1, 1) := by decide +kernel
theorem dX11_findSums_68 : decode cX11_findSums 68 = .ok (.iaload, 1) := by decide +kernel
theorem dX11_findSums_69 : decode cX11_findSums 69 = .ok (.if_icmp .ge 21, 3) := by decide +kernel
theorem dX11_findSums_72 : decode cX11_findSums 72 = .ok (.aload_n 0, 1) := by decide +kernel
theorem dX11_findSums_73 : decode cX11_findSums 73 = .ok (.getfield 28, 3) := by decide +kernel
end
section
theorem dX11_findSums_76 : decode cX11_findSums 76 = .ok (.iload_n 1, 1) := by decide +kernel
theorem dX11_findSums_77 : decode cX11_findSums 77 = .ok (.aload_n 0, 1) := by decide +kernel
theorem dX11_findSums_78 : decode cX11_findSums 78 = .ok (.iload_n 3, 1) := by decide +kernel
theorem dX11_findSums_79 : decode cX11_findSums 79 = .ok (.invokevirtual 65, 3) := by decide +kernel
theorem dX11_findSums_82 : decode cX11_findSums 82 = .ok (.aload_n 0, 1) := by decide +kernel
theorem dX11_findSums_83 : decode cX11_findSums 83 = .ok (.getfield 28, 3) := by decide +kernel
theorem dX11_findSums_86 : decode cX11_findSums 86 = .ok (.iload_n 3, 1) := by decide +kernel
theorem dX11_findSums_87 : decode cX11_findSums 87 = .ok (.iaload, 1) := by decide +kernel
theorem dX11_findSums_88 : decode cX11_findSums 88 = .ok (.iadd, 1) := by decide +kernel
theorem dX11_findSums_89 : decode cX11_findSums 89 = .ok (.iastore, 1) := by decide +kernel
theorem dX11_findSums_90 : decode cX11_findSums 90 = .ok (.iinc 2 1, 3) := by decide +kernel
theorem dX11_findSums_93 : decode cX11_findSums 93 = .ok (.goto (-57), 3) := by decide +kernel
theorem dX11_findSums_96 : decode cX11_findSums 96 = .ok (.iinc 1 (-1), 3) := by decide +kernel
theorem dX11_findSums_99 : decode cX11_findSums 99 = .ok (.goto (-95), 3) := by decide +kernel
theorem dX11_findSums_102 : decode cX11_findSums 102 = .ok (.return_, 1) := by decide +kernel
theorem dX11_soft_0 : decode cX11_soft 0 = .ok (.iload_n 1, 1) := by decide +kernel
theorem dX11_soft_1 : decode cX11_soft 1 = .ok (.i2l, 1) := by decide +kernel
theorem dX11_soft_2 : decode cX11_soft 2 = .ok (.lconst 0, 1) := by decide +kernel
theorem dX11_soft_3 : decode cX11_soft 3 = .ok (.ldc2_w 102, 3) := by decide +kernel
theorem dX11_soft_6 : decode cX11_soft 6 = .ok (.invokestatic 43, 3) := by decide +kernel
theorem dX11_soft_9 : decode cX11_soft 9 = .ok (.ifCond .ne 10, 3) := by decide +kernel
theorem dX11_soft_12 : decode cX11_soft 12 = .ok (.aload_n 0, 1) := by decide +kernel
theorem dX11_soft_13 : decode cX11_soft 13 = .ok (.ldc 40, 2) := by decide +kernel
theorem dX11_soft_15 : decode cX11_soft 15 = .ok (.invokevirtual 94, 3) := by decide +kernel
theorem dX11_soft_18 : decode cX11_soft 18 = .ok (.ireturn, 1) := by decide +kernel
theorem dX11_soft_19 : decode cX11_soft 19 = .ok (.aload_n 0, 1) := by decide +kernel
theorem dX11_soft_20 : decode cX11_soft 20 = .ok (.invokevirtual 282, 3) := by decide +kernel
theorem dX11_soft_23 : decode cX11_soft 23 = .ok (.iconst 0, 1) := by decide +kernel
theorem dX11_soft_24 : decode cX11_soft 24 = .ok (.istore_n 2, 1) := by decide +kernel
theorem dX11_soft_25 : decode cX11_soft 25 = .ok (.iconst 1, 1) := by decide +kernel
theorem dX11_soft_26 : decode cX11_soft 26 = .ok (.istore_n 3, 1) := by decide +kernel
theorem dX11_soft_27 : decode cX11_soft 27 = .ok (.iload_n 3, 1) := by decide +kernel
theorem dX11_soft_28 : decode cX11_soft 28 = .ok (.bipush 12, 2) := by decide +kernel
theorem dX11_soft_30 : decode cX11_soft 30 = .ok (.if_icmp .ge 30, 3) := by decide +kernel
theorem dX11_soft_33 : decode cX11_soft 33 = .ok (.aload_n 0, 1) := by decide +kernel
theorem dX11_soft_34 : decode cX11_soft 34 = .ok (.getfield 28, 3) := by decide +kernel
theorem dX11_soft_37 : decode cX11_soft 37 = .ok (.iload_n 3, 1) := by decide +kernel
theorem dX11_soft_38 : decode cX11_soft 38 = .ok (.iaload, 1) := by decide +kernel
theorem dX11_soft_39 : decode cX11_soft 39 = .ok (.aload_n 0, 1) := by decide +kernel
theorem dX11_soft_40 : decode cX11_soft 40 = .ok (.getfield 28, 3) := by decide +kernel
theorem dX11_soft_43 : decode cX11_soft 43 = .ok (.iload_n 2, 1) := by decide +kernel
theorem dX11_soft_44 : decode cX11_soft 44 = .ok (.iaload, 1) := by decide +kernel
theorem dX11_soft_45 : decode cX11_soft 45 = .ok (.if_icmp .ge 7, 3) := by decide +kernel
theorem dX11_soft_48 : decode cX11_soft 48 = .ok (.iload_n 3, 1) := by decide +kernel
theorem dX11_soft_49 : decode cX11_soft 49 = .ok (.goto 4, 3) := by decide +kernel
theorem dX11_soft_52 : decode cX11_soft 52 = .ok (.iload_n 2, 1) := by decide +kernel
theorem dX11_soft_53 : decode cX11_soft 53 = .ok (.istore_n 2, 1) := by decide +kernel
theorem dX11_soft_54 : decode cX11_soft 54 = .ok (.iinc 3 1, 3) := by decide +kernel
theorem dX11_soft_57 : decode cX11_soft 57 = .ok (.goto (-30), 3) := by decide +kernel
theorem dX11_soft_60 : decode cX11_soft 60 = .ok (.iload_n 1, 1) := by decide +kernel
theorem dX11_soft_61 : decode cX11_soft 61 = .ok (.iconst 2, 1) := by decide +kernel
theorem dX11_soft_62 : decode cX11_soft 62 = .ok (.if_icmp .ge 18, 3) := by decide +kernel
theorem dX11_soft_65 : decode cX11_soft 65 = .ok (.iload_n 1, 1) := by decide +kernel
theorem dX11_soft_66 : decode cX11_soft 66 = .ok (.ifCond .ne 12, 3) := by decide +kernel
theorem dX11_soft_69 : decode cX11_soft 69 = .ok (.aload_n 0, 1) := by decide +kernel
theorem dX11_soft_70 : decode cX11_soft 70 = .ok (.getfield 28, 3) := by decide +kernel
theorem dX11_soft_73 : decode cX11_soft 73 = .ok (.iload_n 2, 1) := by decide +kernel
theorem dX11_soft_74 : decode cX11_soft 74 = .ok (.iaload, 1) := by decide +kernel
theorem dX11_soft_75 : decode cX11_soft 75 = .ok (.goto 4, 3) := by decide +kernel
theorem dX11_soft_78 : decode cX11_soft 78 = .ok (.iload_n 2, 1) := by decide +kernel
theorem dX11_soft_79 : decode cX11_soft 79 = .ok (.ireturn, 1) := by decide +kernel
theorem dX11_soft_80 : decode cX11_soft 80 = .ok (.iload_n 2, 1) := by decide +kernel
theorem dX11_soft_81 : decode cX11_soft 81 = .ok (.istore_n 3, 1) := by decide +kernel
theorem dX11_soft_82 : decode cX11_soft 82 = .ok (.iload_n 3, 1) := by decide +kernel
theorem dX11_soft_83 : decode cX11_soft 83 = .ok (.sipush 180, 3) := by decide +kernel
theorem dX11_soft_86 : decode cX11_soft 86 = .ok (.if_icmp .ge 62, 3) := by decide +kernel
theorem dX11_soft_89 : decode cX11_soft 89 = .ok (.iconst 0, 1) := by decide +kernel
theorem dX11_soft_90 : decode cX11_soft 90 = .ok (.istore 4, 2) := by decide +kernel
theorem dX11_soft_92 : decode cX11_soft 92 = .ok (.iload_n 3, 1) := by decide +kernel
theorem dX11_soft_93 : decode cX11_soft 93 = .ok (.iload 4, 2) := by decide +kernel
theorem dX11_soft_95 : decode cX11_soft 95 = .ok (.invokestatic 68, 3) := by decide +kernel
theorem dX11_soft_98 : decode cX11_soft 98 = .ok (.ifCond .lt 34, 3) := by decide +kernel
theorem dX11_soft_101 : decode cX11_soft 101 = .ok (.aload_n 0, 1) := by decide +kernel
theorem dX11_soft_102 : decode cX11_soft 102 = .ok (.iload_n 3, 1) := by decide +kernel
theorem dX11_soft_103 : decode cX11_soft 103 = .ok (.iload 4, 2) := by decide +kernel
theorem dX11_soft_105 : decode cX11_soft 105 = .ok (.invokestatic 68, 3) := by decide +kernel
theorem dX11_soft_108 : decode cX11_soft 108 = .ok (.invokevirtual 65, 3) := by decide +kernel
theorem dX11_soft_111 : decode cX11_soft 111 = .ok (.aload_n 0, 1) := by decide +kernel
theorem dX11_soft_112 : decode cX11_soft 112 = .ok (.getfield 28, 3) := by decide +kernel
theorem dX11_soft_115 : decode cX11_soft 115 = .ok (.iload_n 3, 1) := by decide +kernel
theorem dX11_soft_116 : decode cX11_soft 116 = .ok (.iload 4, 2) := by decide +kernel
theorem dX11_soft_118 : decode cX11_soft 118 = .ok (.invokestatic 68, 3) := by decide +kernel
theorem dX11_soft_121 : decode cX11_soft 121 = .ok (.iaload, 1) := by decide +kernel
theorem dX11_soft_122 : decode cX11_soft 122 = .ok (.iadd, 1) := by decide +kernel
theorem dX11_soft_123 : decode cX11_soft 123 = .ok (.aload_n 0, 1) := by decide +kernel
theorem dX11_soft_124 : decode cX11_soft 124 = .ok (.getfield 28, 3) := by decide +kernel
theorem dX11_soft_127 : decode cX11_soft 127 = .ok (.iload_n 3, 1) := by decide +kernel
theorem dX11_soft_128 : decode cX11_soft 128 = .ok (.iaload, 1) := by decide +kernel
theorem dX11_soft_129 : decode cX11_soft 129 = .ok (.if_icmp .eq 9, 3) := by decide +kernel
theorem dX11_soft_132 : decode cX11_soft 132 = .ok (.iinc 4 1, 3) := by decide +kernel
theorem dX11_soft_135 : decode cX11_soft 135 = .ok (.goto (-43), 3) := by decide +kernel
theorem dX11_soft_138 : decode cX11_soft 138 = .ok (.iload_n 3, 1) := by decide +kernel
theorem dX11_soft_139 : decode cX11_soft 139 = .ok (.iload 4, 2) := by decide +kernel
theorem dX11_soft_141 : decode cX11_soft 141 = .ok (.invokestatic 68, 3) := by decide +kernel
theorem dX11_soft_144 : decode cX11_soft 144 = .ok (.istore_n 3, 1) := by decide +kernel
theorem dX11_soft_145 : decode cX11_soft 145 = .ok (.goto (-63), 3) := by decide +kernel
theorem dX11_soft_148 : decode cX11_soft 148 = .ok (.iload_n 3, 1) := by decide +kernel
theorem dX11_soft_149 : decode cX11_soft 149 = .ok (.bipush 12, 2) := by decide +kernel
theorem dX11_soft_151 : decode cX11_soft 151 = .ok (.irem, 1) := by decide +kernel
theorem dX11_soft_152 : decode cX11_soft 152 = .ok (.ireturn, 1) := by decide +kernel
theorem dX11_isWay_0 : decode cX11_isWay 0 = .ok (.sipush 4095, 3) := by decide +kernel
theorem dX11_isWay_3 : decode cX11_isWay 3 = .ok (.istore_n 2, 1) := by decide +kernel
theorem dX11_isWay_4 : decode cX11_isWay 4 = .ok (.iconst 1, 1) := by decide +kernel
theorem dX11_isWay_5 : decode cX11_isWay 5 = .ok (.istore_n 3, 1) := by decide +kernel
theorem dX11_isWay_6 : decode cX11_isWay 6 = .ok (.iload_n 3, 1) := by decide +kernel
theorem dX11_isWay_7 : decode cX11_isWay 7 = .ok (.bipush 16, 2) := by decide +kernel
theorem dX11_isWay_9 : decode cX11_isWay 9 = .ok (.if_icmp .ge 83, 3) := by decide +kernel
theorem dX11_isWay_12 : decode cX11_isWay 12 = .ok (.iconst 0, 1) := by decide +kernel
theorem dX11_isWay_13 : decode cX11_isWay 13 = .ok (.istore 4, 2) := by decide +kernel
theorem dX11_isWay_15 : decode cX11_isWay 15 = .ok (.iconst 0, 1) := by decide +kernel
theorem dX11_isWay_16 : decode cX11_isWay 16 = .ok (.istore 5, 2) := by decide +kernel
theorem dX11_isWay_18 : decode cX11_isWay 18 = .ok (.iload 5, 2) := by decide +kernel
theorem dX11_isWay_20 : decode cX11_isWay 20 = .ok (.bipush 12, 2) := by decide +kernel
theorem dX11_isWay_22 : decode cX11_isWay 22 = .ok (.if_icmp .ge 61, 3) := by decide +kernel
theorem dX11_isWay_25 : decode cX11_isWay 25 = .ok (.iload_n 2, 1) := by decide +kernel
theorem dX11_isWay_26 : decode cX11_isWay 26 = .ok (.iconst 1, 1) := by decide +kernel
theorem dX11_isWay_27 : decode cX11_isWay 27 = .ok (.ishl, 1) := by decide +kernel
theorem dX11_isWay_28 : decode cX11_isWay 28 = .ok (.iload 5, 2) := by decide +kernel
theorem dX11_isWay_30 : decode cX11_isWay 30 = .ok (.ishr, 1) := by decide +kernel
theorem dX11_isWay_31 : decode cX11_isWay 31 = .ok (.bipush 7, 2) := by decide +kernel
theorem dX11_isWay_33 : decode cX11_isWay 33 = .ok (.iand, 1) := by decide +kernel
theorem dX11_isWay_34 : decode cX11_isWay 34 = .ok (.ifCond .eq 7, 3) := by decide +kernel
theorem dX11_isWay_37 : decode cX11_isWay 37 = .ok (.iconst 1, 1) := by decide +kernel
theorem dX11_isWay_38 : decode cX11_isWay 38 = .ok (.goto 4, 3) := by decide +kernel
theorem dX11_isWay_41 : decode cX11_isWay 41 = .ok (.iconst 0, 1) := by decide +kernel
theorem dX11_isWay_42 : decode cX11_isWay 42 = .ok (.istore 6, 2) := by decide +kernel
theorem dX11_isWay_44 : decode cX11_isWay 44 = .ok (.iload 4, 2) := by decide +kernel
theorem dX11_isWay_46 : decode cX11_isWay 46 = .ok (.iload 6, 2) := by decide +kernel
theorem dX11_isWay_48 : decode cX11_isWay 48 = .ok (.ifCond .eq 25, 3) := by decide +kernel
theorem dX11_isWay_51 : decode cX11_isWay 51 = .ok (.aload_n 0, 1) := by decide +kernel
theorem dX11_isWay_52 : decode cX11_isWay 52 = .ok (.bipush 12, 2) := by decide +kernel
theorem dX11_isWay_54 : decode cX11_isWay 54 = .ok (.iload_n 3, 1) := by decide +kernel
theorem dX11_isWay_55 : decode cX11_isWay 55 = .ok (.imul, 1) := by decide +kernel
theorem dX11_isWay_56 : decode cX11_isWay 56 = .ok (.iload 5, 2) := by decide +kernel
theorem dX11_isWay_58 : decode cX11_isWay 58 = .ok (.iadd, 1) := by decide +kernel
theorem dX11_isWay_59 : decode cX11_isWay 59 = .ok (.invokevirtual 65, 3) := by decide +kernel
theorem dX11_isWay_62 : decode cX11_isWay 62 = .ok (.iload_n 1, 1) := by decide +kernel
theorem dX11_isWay_63 : decode cX11_isWay 63 = .ok (.if_icmp .gt 10, 3) := by decide +kernel
theorem dX11_isWay_66 : decode cX11_isWay 66 = .ok (.iconst 1, 1) := by decide +kernel
theorem dX11_isWay_67 : decode cX11_isWay 67 = .ok (.iload 5, 2) := by decide +kernel
theorem dX11_isWay_69 : decode cX11_isWay 69 = .ok (.ishl, 1) := by decide +kernel
theorem dX11_isWay_70 : decode cX11_isWay 70 = .ok (.goto 4, 3) := by decide +kernel
theorem dX11_isWay_73 : decode cX11_isWay 73 = .ok (.iconst 0, 1) := by decide +kernel
theorem dX11_isWay_74 : decode cX11_isWay 74 = .ok (.ior, 1) := by decide +kernel
theorem dX11_isWay_75 : decode cX11_isWay 75 = .ok (.istore 4, 2) := by decide +kernel
theorem dX11_isWay_77 : decode cX11_isWay 77 = .ok (.iinc 5 1, 3) := by decide +kernel
theorem dX11_isWay_80 : decode cX11_isWay 80 = .ok (.goto (-62), 3) := by decide +kernel
theorem dX11_isWay_83 : decode cX11_isWay 83 = .ok (.iload 4, 2) := by decide +kernel
theorem dX11_isWay_85 : decode cX11_isWay 85 = .ok (.istore_n 2, 1) := by decide +kernel
theorem dX11_isWay_86 : decode cX11_isWay 86 = .ok (.iinc 3 1, 3) := by decide +kernel
theorem dX11_isWay_89 : decode cX11_isWay 89 = .ok (.goto (-83), 3) := by decide +kernel
theorem dX11_isWay_92 : decode cX11_isWay 92 = .ok (.iload_n 2, 1) := by decide +kernel
theorem dX11_isWay_93 : decode cX11_isWay 93 = .ok (.ifCond .eq 7, 3) := by decide +kernel
theorem dX11_isWay_96 : decode cX11_isWay 96 = .ok (.iconst 1, 1) := by decide +kernel
theorem dX11_isWay_97 : decode cX11_isWay 97 = .ok (.goto 4, 3) := by decide +kernel
theorem dX11_isWay_100 : decode cX11_isWay 100 = .ok (.iconst 0, 1) := by decide +kernel
theorem dX11_isWay_101 : decode cX11_isWay 101 = .ok (.ireturn, 1) := by decide +kernel
theorem dX11_need_0 : decode cX11_need 0 = .ok (.iconst 0, 1) := by decide +kernel
theorem dX11_need_1 : decode cX11_need 1 = .ok (.istore_n 1, 1) := by decide +kernel
theorem dX11_need_2 : decode cX11_need 2 = .ok (.aload_n 0, 1) := by decide +kernel
theorem dX11_need_3 : decode cX11_need 3 = .ok (.iload_n 1, 1) := by decide +kernel
theorem dX11_need_4 : decode cX11_need 4 = .ok (.invokevirtual 285, 3) := by decide +kernel
theorem dX11_need_7 : decode cX11_need 7 = .ok (.ifCond .ne 9, 3) := by decide +kernel
theorem dX11_need_10 : decode cX11_need 10 = .ok (.iinc 1 1, 3) := by decide +kernel
theorem dX11_need_13 : decode cX11_need 13 = .ok (.goto (-11), 3) := by decide +kernel
theorem dX11_need_16 : decode cX11_need 16 = .ok (.iload_n 1, 1) := by decide +kernel
theorem dX11_need_17 : decode cX11_need 17 = .ok (.ireturn, 1) := by decide +kernel
theorem dX11_open_0 : decode cX11_open 0 = .ok (.iload_n 1, 1) := by decide +kernel
theorem dX11_open_1 : decode cX11_open 1 = .ok (.i2l, 1) := by decide +kernel
theorem dX11_open_2 : decode cX11_open 2 = .ok (.lconst 0, 1) := by decide +kernel
theorem dX11_open_3 : decode cX11_open 3 = .ok (.ldc2_w 118, 3) := by decide +kernel
theorem dX11_open_6 : decode cX11_open 6 = .ok (.invokestatic 43, 3) := by decide +kernel
theorem dX11_open_9 : decode cX11_open 9 = .ok (.ifCond .eq 10, 3) := by decide +kernel
theorem dX11_open_12 : decode cX11_open 12 = .ok (.iload_n 2, 1) := by decide +kernel
theorem dX11_open_13 : decode cX11_open 13 = .ok (.invokestatic 130, 3) := by decide +kernel
theorem dX11_open_16 : decode cX11_open 16 = .ok (.ifCond .ne 10, 3) := by decide +kernel
theorem dX11_open_19 : decode cX11_open 19 = .ok (.aload_n 0, 1) := by decide +kernel
theorem dX11_open_20 : decode cX11_open 20 = .ok (.ldc 40, 2) := by decide +kernel
theorem dX11_open_22 : decode cX11_open 22 = .ok (.invokevirtual 94, 3) := by decide +kernel
theorem dX11_open_25 : decode cX11_open 25 = .ok (.ireturn, 1) := by decide +kernel
theorem dX11_open_26 : decode cX11_open 26 = .ok (.iconst 0, 1) := by decide +kernel
theorem dX11_open_27 : decode cX11_open 27 = .ok (.istore_n 3, 1) := by decide +kernel
theorem dX11_open_28 : decode cX11_open 28 = .ok (.bipush 12, 2) := by decide +kernel
theorem dX11_open_30 : decode cX11_open 30 = .ok (.iload_n 1, 1) := by decide +kernel
theorem dX11_open_31 : decode cX11_open 31 = .ok (.imul, 1) := by decide +kernel
theorem dX11_open_32 : decode cX11_open 32 = .ok (.istore 4, 2) := by decide +kernel
theorem dX11_open_34 : decode cX11_open 34 = .ok (.iload 4, 2) := by decide +kernel
theorem dX11_open_36 : decode cX11_open 36 = .ok (.bipush 12, 2) := by decide +kernel
theorem dX11_open_38 : decode cX11_open 38 = .ok (.iload_n 1, 1) := by decide +kernel
theorem dX11_open_39 : decode cX11_open 39 = .ok (.imul, 1) := by decide +kernel
theorem dX11_open_40 : decode cX11_open 40 = .ok (.bipush 12, 2) := by decide +kernel
theorem dX11_open_42 : decode cX11_open 42 = .ok (.iadd, 1) := by decide +kernel
theorem dX11_open_43 : decode cX11_open 43 = .ok (.if_icmp .ge 27, 3) := by decide +kernel
theorem dX11_open_46 : decode cX11_open 46 = .ok (.iload_n 3, 1) := by decide +kernel
theorem dX11_open_47 : decode cX11_open 47 = .ok (.aload_n 0, 1) := by decide +kernel
theorem dX11_open_48 : decode cX11_open 48 = .ok (.iload 4, 2) := by decide +kernel
theorem dX11_open_50 : decode cX11_open 50 = .ok (.iload_n 2, 1) := by decide +kernel
theorem dX11_open_51 : decode cX11_open 51 = .ok (.invokevirtual 71, 3) := by decide +kernel
theorem dX11_open_54 : decode cX11_open 54 = .ok (.ifCond .eq 7, 3) := by decide +kernel
theorem dX11_open_57 : decode cX11_open 57 = .ok (.iconst 1, 1) := by decide +kernel
theorem dX11_open_58 : decode cX11_open 58 = .ok (.goto 4, 3) := by decide +kernel
theorem dX11_open_61 : decode cX11_open 61 = .ok (.iconst 0, 1) := by decide +kernel
theorem dX11_open_62 : decode cX11_open 62 = .ok (.iadd, 1) := by decide +kernel
theorem dX11_open_63 : decode cX11_open 63 = .ok (.istore_n 3, 1) := by decide +kernel
theorem dX11_open_64 : decode cX11_open 64 = .ok (.iinc 4 1, 3) := by decide +kernel
theorem dX11_open_67 : decode cX11_open 67 = .ok (.goto (-33), 3) := by decide +kernel
theorem dX11_open_70 : decode cX11_open 70 = .ok (.iload_n 3, 1) := by decide +kernel
theorem dX11_open_71 : decode cX11_open 71 = .ok (.ireturn, 1) := by decide +kernel
theorem dX11_seed_0 : decode cX11_seed 0 = .ok (.aload_n 0, 1) := by decide +kernel
theorem dX11_seed_1 : decode cX11_seed 1 = .ok (.iconst 3, 1) := by decide +kernel
theorem dX11_seed_2 : decode cX11_seed 2 = .ok (.iload_n 1, 1) := by decide +kernel
theorem dX11_seed_3 : decode cX11_seed 3 = .ok (.invokevirtual 99, 3) := by decide +kernel
theorem dX11_seed_6 : decode cX11_seed 6 = .ok (.ireturn, 1) := by decide +kernel
theorem dX11_hold_0 : decode cX11_hold 0 = .ok (.iload_n 1, 1) := by decide +kernel
theorem dX11_hold_1 : decode cX11_hold 1 = .ok (.i2l, 1) := by decide +kernel
theorem dX11_hold_2 : decode cX11_hold 2 = .ok (.lconst 0, 1) := by decide +kernel
theorem dX11_hold_3 : decode cX11_hold 3 = .ok (.ldc2_w 97, 3) := by decide +kernel
theorem dX11_hold_6 : decode cX11_hold 6 = .ok (.invokestatic 43, 3) := by decide +kernel
theorem dX11_hold_9 : decode cX11_hold 9 = .ok (.ifCond .eq 17, 3) := by decide +kernel
theorem dX11_hold_12 : decode cX11_hold 12 = .ok (.iload_n 2, 1) := by decide +kernel
theorem dX11_hold_13 : decode cX11_hold 13 = .ok (.i2l, 1) := by decide +kernel
theorem dX11_hold_14 : decode cX11_hold 14 = .ok (.ldc2_w 168, 3) := by decide +kernel
theorem dX11_hold_17 : decode cX11_hold 17 = .ok (.ldc2_w 51, 3) := by decide +kernel
theorem dX11_hold_20 : decode cX11_hold 20 = .ok (.invokestatic 43, 3) := by decide +kernel
theorem dX11_hold_23 : decode cX11_hold 23 = .ok (.ifCond .ne 10, 3) := by decide +kernel
theorem dX11_hold_26 : decode cX11_hold 26 = .ok (.aload_n 0, 1) := by decide +kernel
theorem dX11_hold_27 : decode cX11_hold 27 = .ok (.ldc 40, 2) := by decide +kernel
theorem dX11_hold_29 : decode cX11_hold 29 = .ok (.invokevirtual 94, 3) := by decide +kernel
theorem dX11_hold_32 : decode cX11_hold 32 = .ok (.ireturn, 1) := by decide +kernel
theorem dX11_hold_33 : decode cX11_hold 33 = .ok (.iload_n 2, 1) := by decide +kernel
theorem dX11_hold_34 : decode cX11_hold 34 = .ok (.ifCond .lt 18, 3) := by decide +kernel
theorem dX11_hold_37 : decode cX11_hold 37 = .ok (.aload_n 0, 1) := by decide +kernel
theorem dX11_hold_38 : decode cX11_hold 38 = .ok (.iload_n 2, 1) := by decide +kernel
theorem dX11_hold_39 : decode cX11_hold 39 = .ok (.invokevirtual 137, 3) := by decide +kernel
theorem dX11_hold_42 : decode cX11_hold 42 = .ok (.ifCond .ne 10, 3) := by decide +kernel
theorem dX11_hold_45 : decode cX11_hold 45 = .ok (.aload_n 0, 1) := by decide +kernel
theorem dX11_hold_46 : decode cX11_hold 46 = .ok (.ldc 126, 2) := by decide +kernel
theorem dX11_hold_48 : decode cX11_hold 48 = .ok (.invokevirtual 94, 3) := by decide +kernel
theorem dX11_hold_51 : decode cX11_hold 51 = .ok (.ireturn, 1) := by decide +kernel
theorem dX11_hold_52 : decode cX11_hold 52 = .ok (.aload_n 0, 1) := by decide +kernel
theorem dX11_hold_53 : decode cX11_hold 53 = .ok (.getfield 9, 3) := by decide +kernel
theorem dX11_hold_56 : decode cX11_hold 56 = .ok (.sipush 656, 3) := by decide +kernel
theorem dX11_hold_59 : decode cX11_hold 59 = .ok (.iload_n 1, 1) := by decide +kernel
theorem dX11_hold_60 : decode cX11_hold 60 = .ok (.iadd, 1) := by decide +kernel
theorem dX11_hold_61 : decode cX11_hold 61 = .ok (.iload_n 2, 1) := by decide +kernel
theorem dX11_hold_62 : decode cX11_hold 62 = .ok (.iastore, 1) := by decide +kernel
theorem dX11_hold_63 : decode cX11_hold 63 = .ok (.iconst 1, 1) := by decide +kernel
theorem dX11_hold_64 : decode cX11_hold 64 = .ok (.ireturn, 1) := by decide +kernel
theorem dX11_above_0 : decode cX11_above 0 = .ok (.iload_n 0, 1) := by decide +kernel
theorem dX11_above_1 : decode cX11_above 1 = .ok (.tableswitch 55 0 7 #[47, 55, 55, 49, 55, 51, 49, 53], 47) := by decide +kernel
theorem dX11_above_48 : decode cX11_above 48 = .ok (.iconst (-1), 1) := by decide +kernel
theorem dX11_above_49 : decode cX11_above 49 = .ok (.ireturn, 1) := by decide +kernel
theorem dX11_above_50 : decode cX11_above 50 = .ok (.iconst 2, 1) := by decide +kernel
theorem dX11_above_51 : decode cX11_above 51 = .ok (.ireturn, 1) := by decide +kernel
theorem dX11_above_52 : decode cX11_above 52 = .ok (.iconst 4, 1) := by decide +kernel
theorem dX11_above_53 : decode cX11_above 53 = .ok (.ireturn, 1) := by decide +kernel
theorem dX11_above_54 : decode cX11_above 54 = .ok (.iconst 1, 1) := by decide +kernel
theorem dX11_above_55 : decode cX11_above 55 = .ok (.ireturn, 1) := by decide +kernel
theorem dX11_above_56 : decode cX11_above 56 = .ok (.iconst 0, 1) := by decide +kernel
theorem dX11_above_57 : decode cX11_above 57 = .ok (.ireturn, 1) := by decide +kernel
theorem dX11_as_0 : decode cX11_as 0 = .ok (.iload_n 1, 1) := by decide +kernel
theorem dX11_as_1 : decode cX11_as 1 = .ok (.i2l, 1) := by decide +kernel
theorem dX11_as_2 : decode cX11_as 2 = .ok (.lconst 0, 1) := by decide +kernel
theorem dX11_as_3 : decode cX11_as 3 = .ok (.ldc2_w 97, 3) := by decide +kernel
theorem dX11_as_6 : decode cX11_as 6 = .ok (.invokestatic 43, 3) := by decide +kernel
theorem dX11_as_9 : decode cX11_as 9 = .ok (.ifCond .eq 10, 3) := by decide +kernel
theorem dX11_as_12 : decode cX11_as 12 = .ok (.iload_n 2, 1) := by decide +kernel
theorem dX11_as_13 : decode cX11_as 13 = .ok (.invokestatic 127, 3) := by decide +kernel
theorem dX11_as_16 : decode cX11_as 16 = .ok (.ifCond .ne 10, 3) := by decide +kernel
theorem dX11_as_19 : decode cX11_as 19 = .ok (.aload_n 0, 1) := by decide +kernel
theorem dX11_as_20 : decode cX11_as 20 = .ok (.ldc 40, 2) := by decide +kernel
theorem dX11_as_22 : decode cX11_as 22 = .ok (.invokevirtual 94, 3) := by decide +kernel
theorem dX11_as_25 : decode cX11_as 25 = .ok (.ireturn, 1) := by decide +kernel
theorem dX11_as_26 : decode cX11_as 26 = .ok (.aload_n 0, 1) := by decide +kernel
theorem dX11_as_27 : decode cX11_as 27 = .ok (.getfield 9, 3) := by decide +kernel
theorem dX11_as_30 : decode cX11_as 30 = .ok (.sipush 656, 3) := by decide +kernel
theorem dX11_as_33 : decode cX11_as 33 = .ok (.iload_n 1, 1) := by decide +kernel
theorem dX11_as_34 : decode cX11_as 34 = .ok (.iadd, 1) := by decide +kernel
theorem dX11_as_35 : decode cX11_as 35 = .ok (.iaload, 1) := by decide +kernel
theorem dX11_as_36 : decode cX11_as 36 = .ok (.istore_n 3, 1) := by decide +kernel
theorem dX11_as_37 : decode cX11_as 37 = .ok (.aload_n 0, 1) := by decide +kernel
theorem dX11_as_38 : decode cX11_as 38 = .ok (.iload_n 3, 1) := by decide +kernel
theorem dX11_as_39 : decode cX11_as 39 = .ok (.invokevirtual 137, 3) := by decide +kernel
theorem dX11_as_42 : decode cX11_as 42 = .ok (.ifCond .ne 11, 3) := by decide +kernel
theorem dX11_as_45 : decode cX11_as 45 = .ok (.aload_n 0, 1) := by decide +kernel
theorem dX11_as_46 : decode cX11_as 46 = .ok (.ldc_w 288, 3) := by decide +kernel
theorem dX11_as_49 : decode cX11_as 49 = .ok (.invokevirtual 94, 3) := by decide +kernel
theorem dX11_as_52 : decode cX11_as 52 = .ok (.ireturn, 1) := by decide +kernel
theorem dX11_as_53 : decode cX11_as 53 = .ok (.aload_n 0, 1) := by decide +kernel
theorem dX11_as_54 : decode cX11_as 54 = .ok (.iload_n 3, 1) := by decide +kernel
theorem dX11_as_55 : decode cX11_as 55 = .ok (.iconst 0, 1) := by decide +kernel
theorem dX11_as_56 : decode cX11_as 56 = .ok (.invokevirtual 53, 3) := by decide +kernel
theorem dX11_as_59 : decode cX11_as 59 = .ok (.istore 4, 2) := by decide +kernel
theorem dX11_as_61 : decode cX11_as 61 = .ok (.iload 4, 2) := by decide +kernel
theorem dX11_as_63 : decode cX11_as 63 = .ok (.ifCond .lt 21, 3) := by decide +kernel
theorem dX11_as_66 : decode cX11_as 66 = .ok (.iload 4, 2) := by decide +kernel
theorem dX11_as_68 : decode cX11_as 68 = .ok (.iload_n 2, 1) := by decide +kernel
theorem dX11_as_69 : decode cX11_as 69 = .ok (.if_icmp .ne 5, 3) := by decide +kernel
theorem dX11_as_72 : decode cX11_as 72 = .ok (.iload_n 3, 1) := by decide +kernel
theorem dX11_as_73 : decode cX11_as 73 = .ok (.ireturn, 1) := by decide +kernel
theorem dX11_as_74 : decode cX11_as 74 = .ok (.iload 4, 2) := by decide +kernel
theorem dX11_as_76 : decode cX11_as 76 = .ok (.invokestatic 289, 3) := by decide +kernel
theorem dX11_as_79 : decode cX11_as 79 = .ok (.istore 4, 2) := by decide +kernel
theorem dX11_as_81 : decode cX11_as 81 = .ok (.goto (-20), 3) := by decide +kernel
theorem dX11_as_84 : decode cX11_as 84 = .ok (.aload_n 0, 1) := by decide +kernel
theorem dX11_as_85 : decode cX11_as 85 = .ok (.ldc_w 292, 3) := by decide +kernel
theorem dX11_as_88 : decode cX11_as 88 = .ok (.invokevirtual 94, 3) := by decide +kernel
theorem dX11_as_91 : decode cX11_as 91 = .ok (.ireturn, 1) := by decide +kernel
theorem dX11_isSheet_0 : decode cX11_isSheet 0 = .ok (.iload_n 0, 1) := by decide +kernel
theorem dX11_isSheet_1 : decode cX11_isSheet 1 = .ok (.i2l, 1) := by decide +kernel
theorem dX11_isSheet_2 : decode cX11_isSheet 2 = .ok (.lconst 0, 1) := by decide +kernel
theorem dX11_isSheet_3 : decode cX11_isSheet 3 = .ok (.ldc2_w 92, 3) := by decide +kernel
theorem dX11_isSheet_6 : decode cX11_isSheet 6 = .ok (.invokestatic 43, 3) := by decide +kernel
theorem dX11_isSheet_9 : decode cX11_isSheet 9 = .ok (.ireturn, 1) := by decide +kernel
theorem dX11_sheet_0 : decode cX11_sheet 0 = .ok (.iload_n 1, 1) := by decide +kernel
theorem dX11_sheet_1 : decode cX11_sheet 1 = .ok (.invokestatic 293, 3) := by decide +kernel
theorem dX11_sheet_4 : decode cX11_sheet 4 = .ok (.ifCond .eq 25, 3) := by decide +kernel
theorem dX11_sheet_7 : decode cX11_sheet 7 = .ok (.iload_n 2, 1) := by decide +kernel
theorem dX11_sheet_8 : decode cX11_sheet 8 = .ok (.ifCond .eq 28, 3) := by decide +kernel
theorem dX11_sheet_11 : decode cX11_sheet 11 = .ok (.iload_n 2, 1) := by decide +kernel
theorem dX11_sheet_12 : decode cX11_sheet 12 = .ok (.bipush 8, 2) := by decide +kernel
theorem dX11_sheet_14 : decode cX11_sheet 14 = .ok (.if_icmp .eq 22, 3) := by decide +kernel
theorem dX11_sheet_17 : decode cX11_sheet 17 = .ok (.iload_n 2, 1) := by decide +kernel
theorem dX11_sheet_18 : decode cX11_sheet 18 = .ok (.bipush 16, 2) := by decide +kernel
theorem dX11_sheet_20 : decode cX11_sheet 20 = .ok (.if_icmp .eq 16, 3) := by decide +kernel
theorem dX11_sheet_23 : decode cX11_sheet 23 = .ok (.iload_n 2, 1) := by decide +kernel
theorem dX11_sheet_24 : decode cX11_sheet 24 = .ok (.bipush 32, 2) := by decide +kernel
theorem dX11_sheet_26 : decode cX11_sheet 26 = .ok (.if_icmp .eq 10, 3) := by decide +kernel
theorem dX11_sheet_29 : decode cX11_sheet 29 = .ok (.aload_n 0, 1) := by decide +kernel
theorem dX11_sheet_30 : decode cX11_sheet 30 = .ok (.ldc 40, 2) := by decide +kernel
theorem dX11_sheet_32 : decode cX11_sheet 32 = .ok (.invokevirtual 94, 3) := by decide +kernel
theorem dX11_sheet_35 : decode cX11_sheet 35 = .ok (.ireturn, 1) := by decide +kernel
theorem dX11_sheet_36 : decode cX11_sheet 36 = .ok (.iload_n 3, 1) := by decide +kernel
theorem dX11_sheet_37 : decode cX11_sheet 37 = .ok (.ifCond .ge 11, 3) := by decide +kernel
theorem dX11_sheet_40 : decode cX11_sheet 40 = .ok (.aload_n 0, 1) := by decide +kernel
theorem dX11_sheet_41 : decode cX11_sheet 41 = .ok (.ldc_w 296, 3) := by decide +kernel
theorem dX11_sheet_44 : decode cX11_sheet 44 = .ok (.invokevirtual 94, 3) := by decide +kernel
theorem dX11_sheet_47 : decode cX11_sheet 47 = .ok (.ireturn, 1) := by decide +kernel
theorem dX11_sheet_48 : decode cX11_sheet 48 = .ok (.iload_n 3, 1) := by decide +kernel
theorem dX11_sheet_49 : decode cX11_sheet 49 = .ok (.bipush 40, 2) := by decide +kernel
theorem dX11_sheet_51 : decode cX11_sheet 51 = .ok (.if_icmp .le 10, 3) := by decide +kernel
theorem dX11_sheet_54 : decode cX11_sheet 54 = .ok (.aload_n 0, 1) := by decide +kernel
theorem dX11_sheet_55 : decode cX11_sheet 55 = .ok (.ldc 40, 2) := by decide +kernel
theorem dX11_sheet_57 : decode cX11_sheet 57 = .ok (.invokevirtual 94, 3) := by decide +kernel
theorem dX11_sheet_60 : decode cX11_sheet 60 = .ok (.ireturn, 1) := by decide +kernel
theorem dX11_sheet_61 : decode cX11_sheet 61 = .ok (.aload_n 0, 1) := by decide +kernel
theorem dX11_sheet_62 : decode cX11_sheet 62 = .ok (.getfield 31, 3) := by decide +kernel
theorem dX11_sheet_65 : decode cX11_sheet 65 = .ok (.iload_n 1, 1) := by decide +kernel
theorem dX11_sheet_66 : decode cX11_sheet 66 = .ok (.iload_n 2, 1) := by decide +kernel
theorem dX11_sheet_67 : decode cX11_sheet 67 = .ok (.iastore, 1) := by decide +kernel
theorem dX11_sheet_68 : decode cX11_sheet 68 = .ok (.aload_n 0, 1) := by decide +kernel
theorem dX11_sheet_69 : decode cX11_sheet 69 = .ok (.getfield 34, 3) := by decide +kernel
theorem dX11_sheet_72 : decode cX11_sheet 72 = .ok (.iload_n 1, 1) := by decide +kernel
theorem dX11_sheet_73 : decode cX11_sheet 73 = .ok (.iload_n 2, 1) := by decide +kernel
theorem dX11_sheet_74 : decode cX11_sheet 74 = .ok (.ifCond .ne 7, 3) := by decide +kernel
theorem dX11_sheet_77 : decode cX11_sheet 77 = .ok (.iconst 0, 1) := by decide +kernel
theorem dX11_sheet_78 : decode cX11_sheet 78 = .ok (.goto 4, 3) := by decide +kernel
theorem dX11_sheet_81 : decode cX11_sheet 81 = .ok (.iload_n 3, 1) := by decide +kernel
theorem dX11_sheet_82 : decode cX11_sheet 82 = .ok (.iastore, 1) := by decide +kernel
theorem dX11_sheet_83 : decode cX11_sheet 83 = .ok (.iconst 0, 1) := by decide +kernel
theorem dX11_sheet_84 : decode cX11_sheet 84 = .ok (.istore 4, 2) := by decide +kernel
theorem dX11_sheet_86 : decode cX11_sheet 86 = .ok (.iload 4, 2) := by decide +kernel
theorem dX11_sheet_88 : decode cX11_sheet 88 = .ok (.bipush 40, 2) := by decide +kernel
theorem dX11_sheet_90 : decode cX11_sheet 90 = .ok (.if_icmp .ge 22, 3) := by decide +kernel
theorem dX11_sheet_93 : decode cX11_sheet 93 = .ok (.aload_n 0, 1) := by decide +kernel
theorem dX11_sheet_94 : decode cX11_sheet 94 = .ok (.getfield 37, 3) := by decide +kernel
theorem dX11_sheet_97 : decode cX11_sheet 97 = .ok (.bipush 40, 2) := by decide +kernel
theorem dX11_sheet_99 : decode cX11_sheet 99 = .ok (.iload_n 1, 1) := by decide +kernel
theorem dX11_sheet_100 : decode cX11_sheet 100 = .ok (.imul, 1) := by decide +kernel
theorem dX11_sheet_101 : decode cX11_sheet 101 = .ok (.iload 4, 2) := by decide +kernel
theorem dX11_sheet_103 : decode cX11_sheet 103 = .ok (.iadd, 1) := by decide +kernel
theorem dX11_sheet_104 : decode cX11_sheet 104 = .ok (.iconst 0, 1) := by decide +kernel
theorem dX11_sheet_105 : decode cX11_sheet 105 = .ok (.iastore, 1) := by decide +kernel
theorem dX11_sheet_106 : decode cX11_sheet 106 = .ok (.iinc 4 1, 3) := by decide +kernel
theorem dX11_sheet_109 : decode cX11_sheet 109 = .ok (.goto (-23), 3) := by decide +kernel
theorem dX11_sheet_112 : decode cX11_sheet 112 = .ok (.aload_n 0, 1) := by decide +kernel
theorem dX11_sheet_113 : decode cX11_sheet 113 = .ok (.getfield 34, 3) := by decide +kernel
theorem dX11_sheet_116 : decode cX11_sheet 116 = .ok (.iload_n 1, 1) := by decide +kernel
theorem dX11_sheet_117 : decode cX11_sheet 117 = .ok (.iaload, 1) := by decide +kernel
theorem dX11_sheet_118 : decode cX11_sheet 118 = .ok (.ireturn, 1) := by decide +kernel
theorem dX11_write_0 : decode cX11_write 0 = .ok (.iload_n 1, 1) := by decide +kernel
theorem dX11_write_1 : decode cX11_write 1 = .ok (.invokestatic 293, 3) := by decide +kernel
theorem dX11_write_4 : decode cX11_write 4 = .ok (.ifCond .ne 10, 3) := by decide +kernel
theorem dX11_write_7 : decode cX11_write 7 = .ok (.aload_n 0, 1) := by decide +kernel
theorem dX11_write_8 : decode cX11_write 8 = .ok (.ldc 40, 2) := by decide +kernel
theorem dX11_write_10 : decode cX11_write 10 = .ok (.invokevirtual 94, 3) := by decide +kernel
theorem dX11_write_13 : decode cX11_write 13 = .ok (.ireturn, 1) := by decide +kernel
theorem dX11_write_14 : decode cX11_write 14 = .ok (.aload_n 0, 1) := by decide +kernel
theorem dX11_write_15 : decode cX11_write 15 = .ok (.getfield 31, 3) := by decide +kernel
theorem dX11_write_18 : decode cX11_write 18 = .ok (.iload_n 1, 1) := by decide +kernel
theorem dX11_write_19 : decode cX11_write 19 = .ok (.iaload, 1) := by decide +kernel
theorem dX11_write_20 : decode cX11_write 20 = .ok (.ifCond .ne 11, 3) := by decide +kernel
theorem dX11_write_23 : decode cX11_write 23 = .ok (.aload_n 0, 1) := by decide +kernel
theorem dX11_write_24 : decode cX11_write 24 = .ok (.ldc_w 288, 3) := by decide +kernel
theorem dX11_write_27 : decode cX11_write 27 = .ok (.invokevirtual 94, 3) := by decide +kernel
theorem dX11_write_30 : decode cX11_write 30 = .ok (.ireturn, 1) := by decide +kernel
theorem dX11_write_31 : decode cX11_write 31 = .ok (.iload_n 2, 1) := by decide +kernel
theorem dX11_write_32 : decode cX11_write 32 = .ok (.i2l, 1) := by decide +kernel
theorem dX11_write_33 : decode cX11_write 33 = .ok (.lconst 0, 1) := by decide +kernel
theorem dX11_write_34 : decode cX11_write 34 = .ok (.aload_n 0, 1) := by decide +kernel
theorem dX11_write_35 : decode cX11_write 35 = .ok (.getfield 34, 3) := by decide +kernel
theorem dX11_write_38 : decode cX11_write 38 = .ok (.iload_n 1, 1) := by decide +kernel
theorem dX11_write_39 : decode cX11_write 39 = .ok (.iaload, 1) := by decide +kernel
theorem dX11_write_40 : decode cX11_write 40 = .ok (.iconst 1, 1) := by decide +kernel
theorem dX11_write_41 : decode cX11_write 41 = .ok (.isub, 1) := by decide +kernel
theorem dX11_write_42 : decode cX11_write 42 = .ok (.i2l, 1) := by decide +kernel
theorem dX11_write_43 : decode cX11_write 43 = .ok (.invokestatic 43, 3) := by decide +kernel
theorem dX11_write_46 : decode cX11_write 46 = .ok (.ifCond .ne 10, 3) := by decide +kernel
theorem dX11_write_49 : decode cX11_write 49 = .ok (.aload_n 0, 1) := by decide +kernel
theorem dX11_write_50 : decode cX11_write 50 = .ok (.ldc 40, 2) := by decide +kernel
theorem dX11_write_52 : decode cX11_write 52 = .ok (.invokevirtual 94, 3) := by decide +kernel
theorem dX11_write_55 : decode cX11_write 55 = .ok (.ireturn, 1) := by decide +kernel
theorem dX11_write_56 : decode cX11_write 56 = .ok (.aload_n 0, 1) := by decide +kernel
theorem dX11_write_57 : decode cX11_write 57 = .ok (.getfield 37, 3) := by decide +kernel
theorem dX11_write_60 : decode cX11_write 60 = .ok (.bipush 40, 2) := by decide +kernel
theorem dX11_write_62 : decode cX11_write 62 = .ok (.iload_n 1, 1) := by decide +kernel
theorem dX11_write_63 : decode cX11_write 63 = .ok (.imul, 1) := by decide +kernel
theorem dX11_write_64 : decode cX11_write 64 = .ok (.iload_n 2, 1) := by decide +kernel
theorem dX11_write_65 : decode cX11_write 65 = .ok (.iadd, 1) := by decide +kernel
theorem dX11_write_66 : decode cX11_write 66 = .ok (.aload_n 0, 1) := by decide +kernel
theorem dX11_write_67 : decode cX11_write 67 = .ok (.getfield 31, 3) := by decide +kernel
theorem dX11_write_70 : decode cX11_write 70 = .ok (.iload_n 1, 1) := by decide +kernel
theorem dX11_write_71 : decode cX11_write 71 = .ok (.iaload, 1) := by decide +kernel
theorem dX11_write_72 : decode cX11_write 72 = .ok (.bipush 8, 2) := by decide +kernel
theorem dX11_write_74 : decode cX11_write 74 = .ok (.if_icmp .ne 8, 3) := by decide +kernel
theorem dX11_write_77 : decode cX11_write 77 = .ok (.iload_n 3, 1) := by decide +kernel
theorem dX11_write_78 : decode cX11_write 78 = .ok (.i2b, 1) := by decide +kernel
theorem dX11_write_79 : decode cX11_write 79 = .ok (.goto 20, 3) := by decide +kernel
theorem dX11_write_82 : decode cX11_write 82 = .ok (.aload_n 0, 1) := by decide +kernel
theorem dX11_write_83 : decode cX11_write 83 = .ok (.getfield 31, 3) := by decide +kernel
theorem dX11_write_86 : decode cX11_write 86 = .ok (.iload_n 1, 1) := by decide +kernel
theorem dX11_write_87 : decode cX11_write 87 = .ok (.iaload, 1) := by decide +kernel
theorem dX11_write_88 : decode cX11_write 88 = .ok (.bipush 16, 2) := by decide +kernel
theorem dX11_write_90 : decode cX11_write 90 = .ok (.if_icmp .ne 8, 3) := by decide +kernel
theorem dX11_write_93 : decode cX11_write 93 = .ok (.iload_n 3, 1) := by decide +kernel
theorem dX11_write_94 : decode cX11_write 94 = .ok (.i2s, 1) := by decide +kernel
theorem dX11_write_95 : decode cX11_write 95 = .ok (.goto 4, 3) := by decide +kernel
theorem dX11_write_98 : decode cX11_write 98 = .ok (.iload_n 3, 1) := by decide +kernel
theorem dX11_write_99 : decode cX11_write 99 = .ok (.iastore, 1) := by decide +kernel
theorem dX11_write_100 : decode cX11_write 100 = .ok (.iconst 1, 1) := by decide +kernel
theorem dX11_write_101 : decode cX11_write 101 = .ok (.ireturn, 1) := by decide +kernel
theorem dX11_copy_0 : decode cX11_copy 0 = .ok (.iload_n 1, 1) := by decide +kernel
theorem dX11_copy_1 : decode cX11_copy 1 = .ok (.invokestatic 293, 3) := by decide +kernel
theorem dX11_copy_4 : decode cX11_copy 4 = .ok (.ifCond .eq 10, 3) := by decide +kernel
theorem dX11_copy_7 : decode cX11_copy 7 = .ok (.iload_n 3, 1) := by decide +kernel
theorem dX11_copy_8 : decode cX11_copy 8 = .ok (.invokestatic 293, 3) := by decide +kernel
theorem dX11_copy_11 : decode cX11_copy 11 = .ok (.ifCond .ne 10, 3) := by decide +kernel
theorem dX11_copy_14 : decode cX11_copy 14 = .ok (.aload_n 0, 1) := by decide +kernel
theorem dX11_copy_15 : decode cX11_copy 15 = .ok (.ldc 40, 2) := by decide +kernel
theorem dX11_copy_17 : decode cX11_copy 17 = .ok (.invokevirtual 94, 3) := by decide +kernel
theorem dX11_copy_20 : decode cX11_copy 20 = .ok (.ireturn, 1) := by decide +kernel
theorem dX11_copy_21 : decode cX11_copy 21 = .ok (.aload_n 0, 1) := by decide +kernel
theorem dX11_copy_22 : decode cX11_copy 22 = .ok (.getfield 31, 3) := by decide +kernel
theorem dX11_copy_25 : decode cX11_copy 25 = .ok (.iload_n 1, 1) := by decide +kernel
theorem dX11_copy_26 : decode cX11_copy 26 = .ok (.iaload, 1) := by decide +kernel
theorem dX11_copy_27 : decode cX11_copy 27 = .ok (.ifCond .eq 12, 3) := by decide +kernel
theorem dX11_copy_30 : decode cX11_copy 30 = .ok (.aload_n 0, 1) := by decide +kernel
theorem dX11_copy_31 : decode cX11_copy 31 = .ok (.getfield 31, 3) := by decide +kernel
theorem dX11_copy_34 : decode cX11_copy 34 = .ok (.iload_n 3, 1) := by decide +kernel
theorem dX11_copy_35 : decode cX11_copy 35 = .ok (.iaload, 1) := by decide +kernel
theorem dX11_copy_36 : decode cX11_copy 36 = .ok (.ifCond .ne 11, 3) := by decide +kernel
theorem dX11_copy_39 : decode cX11_copy 39 = .ok (.aload_n 0, 1) := by decide +kernel
theorem dX11_copy_40 : decode cX11_copy 40 = .ok (.ldc_w 288, 3) := by decide +kernel
theorem dX11_copy_43 : decode cX11_copy 43 = .ok (.invokevirtual 94, 3) := by decide +kernel
theorem dX11_copy_46 : decode cX11_copy 46 = .ok (.ireturn, 1) := by decide +kernel
theorem dX11_copy_47 : decode cX11_copy 47 = .ok (.aload_n 0, 1) := by decide +kernel
theorem dX11_copy_48 : decode cX11_copy 48 = .ok (.getfield 31, 3) := by decide +kernel
theorem dX11_copy_51 : decode cX11_copy 51 = .ok (.iload_n 1, 1) := by decide +kernel
theorem dX11_copy_52 : decode cX11_copy 52 = .ok (.iaload, 1) := by decide +kernel
theorem dX11_copy_53 : decode cX11_copy 53 = .ok (.aload_n 0, 1) := by decide +kernel
theorem dX11_copy_54 : decode cX11_copy 54 = .ok (.getfield 31, 3) := by decide +kernel
theorem dX11_copy_57 : decode cX11_copy 57 = .ok (.iload_n 3, 1) := by decide +kernel
theorem dX11_copy_58 : decode cX11_copy 58 = .ok (.iaload, 1) := by decide +kernel
theorem dX11_copy_59 : decode cX11_copy 59 = .ok (.if_icmp .eq 11, 3) := by decide +kernel
theorem dX11_copy_62 : decode cX11_copy 62 = .ok (.aload_n 0, 1) := by decide +kernel
theorem dX11_copy_63 : decode cX11_copy 63 = .ok (.ldc_w 292, 3) := by decide +kernel
theorem dX11_copy_66 : decode cX11_copy 66 = .ok (.invokevirtual 94, 3) := by decide +kernel
theorem dX11_copy_69 : decode cX11_copy 69 = .ok (.ireturn, 1) := by decide +kernel
theorem dX11_copy_70 : decode cX11_copy 70 = .ok (.iload 5, 2) := by decide +kernel
theorem dX11_copy_72 : decode cX11_copy 72 = .ok (.ifCond .lt 39, 3) := by decide +kernel
theorem dX11_copy_75 : decode cX11_copy 75 = .ok (.iload_n 2, 1) := by decide +kernel
theorem dX11_copy_76 : decode cX11_copy 76 = .ok (.ifCond .lt 35, 3) := by decide +kernel
theorem dX11_copy_79 : decode cX11_copy 79 = .ok (.iload 4, 2) := by decide +kernel
theorem dX11_copy_81 : decode cX11_copy 81 = .ok (.ifCond .lt 30, 3) := by decide +kernel
theorem dX11_copy_84 : decode cX11_copy 84 = .ok (.iload 5, 2) := by decide +kernel
theorem dX11_copy_86 : decode cX11_copy 86 = .ok (.aload_n 0, 1) := by decide +kernel
theorem dX11_copy_87 : decode cX11_copy 87 = .ok (.getfield 34, 3) := by decide +kernel
theorem dX11_copy_90 : decode cX11_copy 90 = .ok (.iload_n 1, 1) := by decide +kernel
theorem dX11_copy_91 : decode cX11_copy 91 = .ok (.iaload, 1) := by decide +kernel
theorem dX11_copy_92 : decode cX11_copy 92 = .ok (.iload_n 2, 1) := by decide +kernel
theorem dX11_copy_93 : decode cX11_copy 93 = .ok (.isub, 1) := by decide +kernel
theorem dX11_copy_94 : decode cX11_copy 94 = .ok (.if_icmp .gt 17, 3) := by decide +kernel
theorem dX11_copy_97 : decode cX11_copy 97 = .ok (.iload 5, 2) := by decide +kernel
theorem dX11_copy_99 : decode cX11_copy 99 = .ok (.aload_n 0, 1) := by decide +kernel
theorem dX11_copy_100 : decode cX11_copy 100 = .ok (.getfield 34, 3) := by decide +kernel
theorem dX11_copy_103 : decode cX11_copy 103 = .ok (.iload_n 3, 1) := by decide +kernel
theorem dX11_copy_104 : decode cX11_copy 104 = .ok (.iaload, 1) := by decide +kernel
theorem dX11_copy_105 : decode cX11_copy 105 = .ok (.iload 4, 2) := by decide +kernel
theorem dX11_copy_107 : decode cX11_copy 107 = .ok (.isub, 1) := by decide +kernel
theorem dX11_copy_108 : decode cX11_copy 108 = .ok (.if_icmp .le 10, 3) := by decide +kernel
theorem dX11_copy_111 : decode cX11_copy 111 = .ok (.aload_n 0, 1) := by decide +kernel
theorem dX11_copy_112 : decode cX11_copy 112 = .ok (.ldc 40, 2) := by decide +kernel
theorem dX11_copy_114 : decode cX11_copy 114 = .ok (.invokevirtual 94, 3) := by decide +kernel
theorem dX11_copy_117 : decode cX11_copy 117 = .ok (.ireturn, 1) := by decide +kernel
theorem dX11_copy_118 : decode cX11_copy 118 = .ok (.iload_n 1, 1) := by decide +kernel
theorem dX11_copy_119 : decode cX11_copy 119 = .ok (.iload_n 3, 1) := by decide +kernel
theorem dX11_copy_120 : decode cX11_copy 120 = .ok (.if_icmp .ne 13, 3) := by decide +kernel
theorem dX11_copy_123 : decode cX11_copy 123 = .ok (.iload_n 2, 1) := by decide +kernel
theorem dX11_copy_124 : decode cX11_copy 124 = .ok (.iload 4, 2) := by decide +kernel
theorem dX11_copy_126 : decode cX11_copy 126 = .ok (.if_icmp .ge 7, 3) := by decide +kernel
theorem dX11_copy_129 : decode cX11_copy 129 = .ok (.iconst 1, 1) := by decide +kernel
theorem dX11_copy_130 : decode cX11_copy 130 = .ok (.goto 4, 3) := by decide +kernel
theorem dX11_copy_133 : decode cX11_copy 133 = .ok (.iconst 0, 1) := by decide +kernel
theorem dX11_copy_134 : decode cX11_copy 134 = .ok (.istore 6, 2) := by decide +kernel
theorem dX11_copy_136 : decode cX11_copy 136 = .ok (.iconst 0, 1) := by decide +kernel
theorem dX11_copy_137 : decode cX11_copy 137 = .ok (.istore 7, 2) := by decide +kernel
theorem dX11_copy_139 : decode cX11_copy 139 = .ok (.iload 7, 2) := by decide +kernel
theorem dX11_copy_141 : decode cX11_copy 141 = .ok (.iload 5, 2) := by decide +kernel
theorem dX11_copy_143 : decode cX11_copy 143 = .ok (.if_icmp .ge 57, 3) := by decide +kernel
theorem dX11_copy_146 : decode cX11_copy 146 = .ok (.iload 6, 2) := by decide +kernel
theorem dX11_copy_148 : decode cX11_copy 148 = .ok (.ifCond .eq 13, 3) := by decide +kernel
theorem dX11_copy_151 : decode cX11_copy 151 = .ok (.iload 5, 2) := by decide +kernel
theorem dX11_copy_153 : decode cX11_copy 153 = .ok (.iconst 1, 1) := by decide +kernel
theorem dX11_copy_154 : decode cX11_copy 154 = .ok (.isub, 1) := by decide +kernel
theorem dX11_copy_155 : decode cX11_copy 155 = .ok (.iload 7, 2) := by decide +kernel
theorem dX11_copy_157 : decode cX11_copy 157 = .ok (.isub, 1) := by decide +kernel
theorem dX11_copy_158 : decode cX11_copy 158 = .ok (.goto 5, 3) := by decide +kernel
theorem dX11_copy_161 : decode cX11_copy 161 = .ok (.iload 7, 2) := by decide +kernel
theorem dX11_copy_163 : decode cX11_copy 163 = .ok (.istore 8, 2) := by decide +kernel
theorem dX11_copy_165 : decode cX11_copy 165 = .ok (.aload_n 0, 1) := by decide +kernel
theorem dX11_copy_166 : decode cX11_copy 166 = .ok (.getfield 37, 3) := by decide +kernel
theorem dX11_copy_169 : decode cX11_copy 169 = .ok (.bipush 40, 2) := by decide +kernel
theorem dX11_copy_171 : decode cX11_copy 171 = .ok (.iload_n 3, 1) := by decide +kernel
theorem dX11_copy_172 : decode cX11_copy 172 = .ok (.imul, 1) := by decide +kernel
theorem dX11_copy_173 : decode cX11_copy 173 = .ok (.iload 4, 2) := by decide +kernel
theorem dX11_copy_175 : decode cX11_copy 175 = .ok (.iadd, 1) := by decide +kernel
theorem dX11_copy_176 : decode cX11_copy 176 = .ok (.iload 8, 2) := by decide +kernel
theorem dX11_copy_178 : decode cX11_copy 178 = .ok (.iadd, 1) := by decide +kernel
theorem dX11_copy_179 : decode cX11_copy 179 = .ok (.aload_n 0, 1) := by decide +kernel
theorem dX11_copy_180 : decode cX11_copy 180 = .ok (.getfield 37, 3) := by decide +kernel
theorem dX11_copy_183 : decode cX11_copy 183 = .ok (.bipush 40, 2) := by decide +kernel
theorem dX11_copy_185 : decode cX11_copy 185 = .ok (.iload_n 1, 1) := by decide +kernel
theorem dX11_copy_186 : decode cX11_copy 186 = .ok (.imul, 1) := by decide +kernel
theorem dX11_copy_187 : decode cX11_copy 187 = .ok (.iload_n 2, 1) := by decide +kernel
theorem dX11_copy_188 : decode cX11_copy 188 = .ok (.iadd, 1) := by decide +kernel
theorem dX11_copy_189 : decode cX11_copy 189 = .ok (.iload 8, 2) := by decide +kernel
theorem dX11_copy_191 : decode cX11_copy 191 = .ok (.iadd, 1) := by decide +kernel
theorem dX11_copy_192 : decode cX11_copy 192 = .ok (.iaload, 1) := by decide +kernel
theorem dX11_copy_193 : decode cX11_copy 193 = .ok (.iastore, 1) := by decide +kernel
theorem dX11_copy_194 : decode cX11_copy 194 = .ok (.iinc 7 1, 3) := by decide +kernel
theorem dX11_copy_197 : decode cX11_copy 197 = .ok (.goto (-58), 3) := by decide +kernel
theorem dX11_copy_200 : decode cX11_copy 200 = .ok (.iload 5, 2) := by decide +kernel
theorem dX11_copy_202 : decode cX11_copy 202 = .ok (.ireturn, 1) := by decide +kernel
theorem dX11_load_0 : decode cX11_load 0 = .ok (.iload_n 1, 1) := by decide +kernel
theorem dX11_load_1 : decode cX11_load 1 = .ok (.invokestatic 293, 3) := by decide +kernel
theorem dX11_load_4 : decode cX11_load 4 = .ok (.ifCond .ne 10, 3) := by decide +kernel
theorem dX11_load_7 : decode cX11_load 7 = .ok (.aload_n 0, 1) := by decide +kernel
theorem dX11_load_8 : decode cX11_load 8 = .ok (.ldc 40, 2) := by decide +kernel
theorem dX11_load_10 : decode cX11_load 10 = .ok (.invokevirtual 94, 3) := by decide +kernel
theorem dX11_load_13 : decode cX11_load 13 = .ok (.ireturn, 1) := by decide +kernel
theorem dX11_load_14 : decode cX11_load 14 = .ok (.aload_n 0, 1) := by decide +kernel
theorem dX11_load_15 : decode cX11_load 15 = .ok (.getfield 31, 3) := by decide +kernel
theorem dX11_load_18 : decode cX11_load 18 = .ok (.iload_n 1, 1) := by decide +kernel
theorem dX11_load_19 : decode cX11_load 19 = .ok (.iaload, 1) := by decide +kernel
theorem dX11_load_20 : decode cX11_load 20 = .ok (.ifCond .ne 11, 3) := by decide +kernel
theorem dX11_load_23 : decode cX11_load 23 = .ok (.aload_n 0, 1) := by decide +kernel
theorem dX11_load_24 : decode cX11_load 24 = .ok (.ldc_w 288, 3) := by decide +kernel
theorem dX11_load_27 : decode cX11_load 27 = .ok (.invokevirtual 94, 3) := by decide +kernel
theorem dX11_load_30 : decode cX11_load 30 = .ok (.ireturn, 1) := by decide +kernel
theorem dX11_load_31 : decode cX11_load 31 = .ok (.iload_n 2, 1) := by decide +kernel
theorem dX11_load_32 : decode cX11_load 32 = .ok (.invokestatic 88, 3) := by decide +kernel
theorem dX11_load_35 : decode cX11_load 35 = .ok (.ifCond .ne 10, 3) := by decide +kernel
theorem dX11_load_38 : decode cX11_load 38 = .ok (.aload_n 0, 1) := by decide +kernel
theorem dX11_load_39 : decode cX11_load 39 = .ok (.ldc 40, 2) := by decide +kernel
theorem dX11_load_41 : decode cX11_load 41 = .ok (.invokevirtual 94, 3) := by decide +kernel
theorem dX11_load_44 : decode cX11_load 44 = .ok (.ireturn, 1) := by decide +kernel
theorem dX11_load_45 : decode cX11_load 45 = .ok (.iconst 0, 1) := by decide +kernel
theorem dX11_load_46 : decode cX11_load 46 = .ok (.istore_n 3, 1) := by decide +kernel
theorem dX11_load_47 : decode cX11_load 47 = .ok (.iload_n 3, 1) := by decide +kernel
theorem dX11_load_48 : decode cX11_load 48 = .ok (.aload_n 0, 1) := by decide +kernel
theorem dX11_load_49 : decode cX11_load 49 = .ok (.getfield 34, 3) := by decide +kernel
theorem dX11_load_52 : decode cX11_load 52 = .ok (.iload_n 1, 1) := by decide +kernel
theorem dX11_load_53 : decode cX11_load 53 = .ok (.iaload, 1) := by decide +kernel
theorem dX11_load_54 : decode cX11_load 54 = .ok (.if_icmp .ge 62, 3) := by decide +kernel
theorem dX11_load_57 : decode cX11_load 57 = .ok (.iload_n 2, 1) := by decide +kernel
theorem dX11_load_58 : decode cX11_load 58 = .ok (.iload_n 3, 1) := by decide +kernel
theorem dX11_load_59 : decode cX11_load 59 = .ok (.iadd, 1) := by decide +kernel
theorem dX11_load_60 : decode cX11_load 60 = .ok (.invokestatic 88, 3) := by decide +kernel
theorem dX11_load_63 : decode cX11_load 63 = .ok (.ifCond .eq 53, 3) := by decide +kernel
theorem dX11_load_66 : decode cX11_load 66 = .ok (.aload_n 0, 1) := by decide +kernel
theorem dX11_load_67 : decode cX11_load 67 = .ok (.getfield 37, 3) := by decide +kernel
theorem dX11_load_70 : decode cX11_load 70 = .ok (.bipush 40, 2) := by decide +kernel
theorem dX11_load_72 : decode cX11_load 72 = .ok (.iload_n 1, 1) := by decide +kernel
theorem dX11_load_73 : decode cX11_load 73 = .ok (.imul, 1) := by decide +kernel
theorem dX11_load_74 : decode cX11_load 74 = .ok (.iload_n 3, 1) := by decide +kernel
theorem dX11_load_75 : decode cX11_load 75 = .ok (.iadd, 1) := by decide +kernel
theorem dX11_load_76 : decode cX11_load 76 = .ok (.iaload, 1) := by decide +kernel
theorem dX11_load_77 : decode cX11_load 77 = .ok (.i2l, 1) := by decide +kernel
theorem dX11_load_78 : decode cX11_load 78 = .ok (.lconst 0, 1) := by decide +kernel
theorem dX11_load_79 : decode cX11_load 79 = .ok (.ldc2_w 97, 3) := by decide +kernel
theorem dX11_load_82 : decode cX11_load 82 = .ok (.invokestatic 43, 3) := by decide +kernel
theorem dX11_load_85 : decode cX11_load 85 = .ok (.ifCond .eq 31, 3) := by decide +kernel
theorem dX11_load_88 : decode cX11_load 88 = .ok (.aload_n 0, 1) := by decide +kernel
theorem dX11_load_89 : decode cX11_load 89 = .ok (.getfield 9, 3) := by decide +kernel
theorem dX11_load_92 : decode cX11_load 92 = .ok (.bipush 18, 2) := by decide +kernel
theorem dX11_load_94 : decode cX11_load 94 = .ok (.iload_n 2, 1) := by decide +kernel
theorem dX11_load_95 : decode cX11_load 95 = .ok (.iadd, 1) := by decide +kernel
theorem dX11_load_96 : decode cX11_load 96 = .ok (.iload_n 3, 1) := by decide +kernel
theorem dX11_load_97 : decode cX11_load 97 = .ok (.iadd, 1) := by decide +kernel
theorem dX11_load_98 : decode cX11_load 98 = .ok (.aload_n 0, 1) := by decide +kernel
theorem dX11_load_99 : decode cX11_load 99 = .ok (.getfield 37, 3) := by decide +kernel
theorem dX11_load_102 : decode cX11_load 102 = .ok (.bipush 40, 2) := by decide +kernel
theorem dX11_load_104 : decode cX11_load 104 = .ok (.iload_n 1, 1) := by decide +kernel
theorem dX11_load_105 : decode cX11_load 105 = .ok (.imul, 1) := by decide +kernel
theorem dX11_load_106 : decode cX11_load 106 = .ok (.iload_n 3, 1) := by decide +kernel
theorem dX11_load_107 : decode cX11_load 107 = .ok (.iadd, 1) := by decide +kernel
theorem dX11_load_108 : decode cX11_load 108 = .ok (.iaload, 1) := by decide +kernel
theorem dX11_load_109 : decode cX11_load 109 = .ok (.iastore, 1) := by decide +kernel
theorem dX11_load_110 : decode cX11_load 110 = .ok (.iinc 3 1, 3) := by decide +kernel
theorem dX11_load_113 : decode cX11_load 113 = .ok (.goto (-66), 3) := by decide +kernel
theorem dX11_load_116 : decode cX11_load 116 = .ok (.iload_n 3, 1) := by decide +kernel
theorem dX11_load_117 : decode cX11_load 117 = .ok (.ireturn, 1) := by decide +kernel
theorem dX11_judge_0 : decode cX11_judge 0 = .ok (.iload_n 1, 1) := by decide +kernel
theorem dX11_judge_1 : decode cX11_judge 1 = .ok (.invokestatic 293, 3) := by decide +kernel
theorem dX11_judge_4 : decode cX11_judge 4 = .ok (.ifCond .ne 10, 3) := by decide +kernel
theorem dX11_judge_7 : decode cX11_judge 7 = .ok (.aload_n 0, 1) := by decide +kernel
theorem dX11_judge_8 : decode cX11_judge 8 = .ok (.ldc 40, 2) := by decide +kernel
theorem dX11_judge_10 : decode cX11_judge 10 = .ok (.invokevirtual 94, 3) := by decide +kernel
theorem dX11_judge_13 : decode cX11_judge 13 = .ok (.ireturn, 1) := by decide +kernel
theorem dX11_judge_14 : decode cX11_judge 14 = .ok (.aload_n 0, 1) := by decide +kernel
theorem dX11_judge_15 : decode cX11_judge 15 = .ok (.getfield 31, 3) := by decide +kernel
theorem dX11_judge_18 : decode cX11_judge 18 = .ok (.iload_n 1, 1) := by decide +kernel
theorem dX11_judge_19 : decode cX11_judge 19 = .ok (.iaload, 1) := by decide +kernel
theorem dX11_judge_20 : decode cX11_judge 20 = .ok (.ifCond .ne 11, 3) := by decide +kernel
theorem dX11_judge_23 : decode cX11_judge 23 = .ok (.aload_n 0, 1) := by decide +kernel
theorem dX11_judge_24 : decode cX11_judge 24 = .ok (.ldc_w 288, 3) := by decide +kernel
theorem dX11_judge_27 : decode cX11_judge 27 = .ok (.invokevirtual 94, 3) := by decide +kernel
theorem dX11_judge_30 : decode cX11_judge 30 = .ok (.ireturn, 1) := by decide +kernel
theorem dX11_judge_31 : decode cX11_judge 31 = .ok (.iload_n 2, 1) := by decide +kernel
theorem dX11_judge_32 : decode cX11_judge 32 = .ok (.invokestatic 127, 3) := by decide +kernel
theorem dX11_judge_35 : decode cX11_judge 35 = .ok (.ifCond .eq 27, 3) := by decide +kernel
theorem dX11_judge_38 : decode cX11_judge 38 = .ok (.aload_n 0, 1) := by decide +kernel
theorem dX11_judge_39 : decode cX11_judge 39 = .ok (.getfield 34, 3) := by decide +kernel
theorem dX11_judge_42 : decode cX11_judge 42 = .ok (.iload_n 1, 1) := by decide +kernel
theorem dX11_judge_43 : decode cX11_judge 43 = .ok (.iaload, 1) := by decide +kernel
theorem dX11_judge_44 : decode cX11_judge 44 = .ok (.ifCond .eq 18, 3) := by decide +kernel
theorem dX11_judge_47 : decode cX11_judge 47 = .ok (.aload_n 0, 1) := by decide +kernel
theorem dX11_judge_48 : decode cX11_judge 48 = .ok (.getfield 37, 3) := by decide +kernel
theorem dX11_judge_51 : decode cX11_judge 51 = .ok (.bipush 40, 2) := by decide +kernel
theorem dX11_judge_53 : decode cX11_judge 53 = .ok (.iload_n 1, 1) := by decide +kernel
theorem dX11_judge_54 : decode cX11_judge 54 = .ok (.imul, 1) := by decide +kernel
theorem dX11_judge_55 : decode cX11_judge 55 = .ok (.iaload, 1) := by decide +kernel
theorem dX11_judge_56 : decode cX11_judge 56 = .ok (.invokestatic 120, 3) := by decide +kernel
theorem dX11_judge_59 : decode cX11_judge 59 = .ok (.ifCond .ne 10, 3) := by decide +kernel
theorem dX11_judge_62 : decode cX11_judge 62 = .ok (.aload_n 0, 1) := by decide +kernel
theorem dX11_judge_63 : decode cX11_judge 63 = .ok (.ldc 40, 2) := by decide +kernel
theorem dX11_judge_65 : decode cX11_judge 65 = .ok (.invokevirtual 94, 3) := by decide +kernel
theorem dX11_judge_68 : decode cX11_judge 68 = .ok (.ireturn, 1) := by decide +kernel
theorem dX11_judge_69 : decode cX11_judge 69 = .ok (.aload_n 0, 1) := by decide +kernel
theorem dX11_judge_70 : decode cX11_judge 70 = .ok (.iload_n 2, 1) := by decide +kernel
theorem dX11_judge_71 : decode cX11_judge 71 = .ok (.aload_n 0, 1) := by decide +kernel
theorem dX11_judge_72 : decode cX11_judge 72 = .ok (.getfield 37, 3) := by decide +kernel
theorem dX11_judge_75 : decode cX11_judge 75 = .ok (.bipush 40, 2) := by decide +kernel
theorem dX11_judge_77 : decode cX11_judge 77 = .ok (.iload_n 1, 1) := by decide +kernel
theorem dX11_judge_78 : decode cX11_judge 78 = .ok (.imul, 1) := by decide +kernel
theorem dX11_judge_79 : decode cX11_judge 79 = .ok (.iaload, 1) := by decide +kernel
theorem dX11_judge_80 : decode cX11_judge 80 = .ok (.bipush 20, 2) := by decide +kernel
theorem dX11_judge_82 : decode cX11_judge 82 = .ok (.invokevirtual 271, 3) := by decide +kernel
theorem dX11_judge_85 : decode cX11_judge 85 = .ok (.iconst 0, 1) := by decide +kernel
theorem dX11_judge_86 : decode cX11_judge 86 = .ok (.istore_n 3, 1) := by decide +kernel
theorem dX11_judge_87 : decode cX11_judge 87 = .ok (.iload_n 3, 1) := by decide +kernel
theorem dX11_judge_88 : decode cX11_judge 88 = .ok (.aload_n 0, 1) := by decide +kernel
theorem dX11_judge_89 : decode cX11_judge 89 = .ok (.getfield 34, 3) := by decide +kernel
theorem dX11_judge_92 : decode cX11_judge 92 = .ok (.iload_n 1, 1) := by decide +kernel
theorem dX11_judge_93 : decode cX11_judge 93 = .ok (.iaload, 1) := by decide +kernel
theorem dX11_judge_94 : decode cX11_judge 94 = .ok (.if_icmp .ge 44, 3) := by decide +kernel
theorem dX11_judge_97 : decode cX11_judge 97 = .ok (.iload_n 3, 1) := by decide +kernel
theorem dX11_judge_98 : decode cX11_judge 98 = .ok (.aload_n 0, 1) := by decide +kernel
theorem dX11_judge_99 : decode cX11_judge 99 = .ok (.invokevirtual 274, 3) := by decide +kernel
theorem dX11_judge_102 : decode cX11_judge 102 = .ok (.if_icmp .gt 26, 3) := by decide +kernel
theorem dX11_judge_105 : decode cX11_judge 105 = .ok (.aload_n 0, 1) := by decide +kernel
theorem dX11_judge_106 : decode cX11_judge 106 = .ok (.getfield 37, 3) := by decide +kernel
theorem dX11_judge_109 : decode cX11_judge 109 = .ok (.bipush 40, 2) := by decide +kernel
theorem dX11_judge_111 : decode cX11_judge 111 = .ok (.iload_n 1, 1) := by decide +kernel
theorem dX11_judge_112 : decode cX11_judge 112 = .ok (.imul, 1) := by decide +kernel
theorem dX11_judge_113 : decode cX11_judge 113 = .ok (.iload_n 3, 1) := by decide +kernel
theorem dX11_judge_114 : decode cX11_judge 114 = .ok (.iadd, 1) := by decide +kernel
theorem dX11_judge_115 : decode cX11_judge 115 = .ok (.iaload, 1) := by decide +kernel
theorem dX11_judge_116 : decode cX11_judge 116 = .ok (.aload_n 0, 1) := by decide +kernel
theorem dX11_judge_117 : decode cX11_judge 117 = .ok (.getfield 22, 3) := by decide +kernel
theorem dX11_judge_120 : decode cX11_judge 120 = .ok (.iload_n 3, 1) := by decide +kernel
theorem dX11_judge_121 : decode cX11_judge 121 = .ok (.iaload, 1) := by decide +kernel
theorem dX11_judge_122 : decode cX11_judge 122 = .ok (.bipush 12, 2) := by decide +kernel
theorem dX11_judge_124 : decode cX11_judge 124 = .ok (.irem, 1) := by decide +kernel
theorem dX11_judge_125 : decode cX11_judge 125 = .ok (.if_icmp .eq 7, 3) := by decide +kernel
theorem dX11_judge_128 : decode cX11_judge 128 = .ok (.iconst 1, 1) := by decide +kernel
theorem dX11_judge_129 : decode cX11_judge 129 = .ok (.iload_n 3, 1) := by decide +kernel
theorem dX11_judge_130 : decode cX11_judge 130 = .ok (.iadd, 1) := by decide +kernel
theorem dX11_judge_131 : decode cX11_judge 131 = .ok (.ireturn, 1) := by decide +kernel
theorem dX11_judge_132 : decode cX11_judge 132 = .ok (.iinc 3 1, 3) := by decide +kernel
theorem dX11_judge_135 : decode cX11_judge 135 = .ok (.goto (-48), 3) := by decide +kernel
theorem dX11_judge_138 : decode cX11_judge 138 = .ok (.iconst 0, 1) := by decide +kernel
theorem dX11_judge_139 : decode cX11_judge 139 = .ok (.ireturn, 1) := by decide +kernel
theorem dX11_image_0 : decode cX11_image 0 = .ok (.iconst 0, 1) := by decide +kernel
theorem dX11_image_1 : decode cX11_image 1 = .ok (.istore_n 1, 1) := by decide +kernel
theorem dX11_image_2 : decode cX11_image 2 = .ok (.iload_n 1, 1) := by decide +kernel
theorem dX11_image_3 : decode cX11_image 3 = .ok (.sipush 666, 3) := by decide +kernel
theorem dX11_image_6 : decode cX11_image 6 = .ok (.if_icmp .ge 21, 3) := by decide +kernel
theorem dX11_image_9 : decode cX11_image 9 = .ok (.aload_n 0, 1) := by decide +kernel
theorem dX11_image_10 : decode cX11_image 10 = .ok (.getfield 13, 3) := by decide +kernel
theorem dX11_image_13 : decode cX11_image 13 = .ok (.iload_n 1, 1) := by decide +kernel
theorem dX11_image_14 : decode cX11_image 14 = .ok (.aload_n 0, 1) := by decide +kernel
theorem dX11_image_15 : decode cX11_image 15 = .ok (.getfield 9, 3) := by decide +kernel
theorem dX11_image_18 : decode cX11_image 18 = .ok (.iload_n 1, 1) := by decide +kernel
theorem dX11_image_19 : decode cX11_image 19 = .ok (.iaload, 1) := by decide +kernel
theorem dX11_image_20 : decode cX11_image 20 = .ok (.iastore, 1) := by decide +kernel
theorem dX11_image_21 : decode cX11_image 21 = .ok (.iinc 1 1, 3) := by decide +kernel
theorem dX11_image_24 : decode cX11_image 24 = .ok (.goto (-22), 3) := by decide +kernel
theorem dX11_image_27 : decode cX11_image 27 = .ok (.aload_n 0, 1) := by decide +kernel
theorem dX11_image_28 : decode cX11_image 28 = .ok (.iconst 1, 1) := by decide +kernel
theorem dX11_image_29 : decode cX11_image 29 = .ok (.putfield 297, 3) := by decide +kernel
theorem dX11_image_32 : decode cX11_image 32 = .ok (.iconst 1, 1) := by decide +kernel
theorem dX11_image_33 : decode cX11_image 33 = .ok (.ireturn, 1) := by decide +kernel
theorem dX11_undo_0 : decode cX11_undo 0 = .ok (.aload_n 0, 1) := by decide +kernel
theorem dX11_undo_1 : decode cX11_undo 1 = .ok (.getfield 297, 3) := by decide +kernel
theorem dX11_undo_4 : decode cX11_undo 4 = .ok (.ifCond .ne 10, 3) := by decide +kernel
theorem dX11_undo_7 : decode cX11_undo 7 = .ok (.aload_n 0, 1) := by decide +kernel
theorem dX11_undo_8 : decode cX11_undo 8 = .ok (.ldc 126, 2) := by decide +kernel
theorem dX11_undo_10 : decode cX11_undo 10 = .ok (.invokevirtual 94, 3) := by decide +kernel
theorem dX11_undo_13 : decode cX11_undo 13 = .ok (.ireturn, 1) := by decide +kernel
theorem dX11_undo_14 : decode cX11_undo 14 = .ok (.iconst 0, 1) := by decide +kernel
theorem dX11_undo_15 : decode cX11_undo 15 = .ok (.istore_n 1, 1) := by decide +kernel
theorem dX11_undo_16 : decode cX11_undo 16 = .ok (.iload_n 1, 1) := by decide +kernel
theorem dX11_undo_17 : decode cX11_undo 17 = .ok (.sipush 666, 3) := by decide +kernel
theorem dX11_undo_20 : decode cX11_undo 20 = .ok (.if_icmp .ge 21, 3) := by decide +kernel
theorem dX11_undo_23 : decode cX11_undo 23 = .ok (.aload_n 0, 1) := by decide +kernel
theorem dX11_undo_24 : decode cX11_undo 24 = .ok (.getfield 9, 3) := by decide +kernel
theorem dX11_undo_27 : decode cX11_undo 27 = .ok (.iload_n 1, 1) := by decide +kernel
theorem dX11_undo_28 : decode cX11_undo 28 = .ok (.aload_n 0, 1) := by decide +kernel
theorem dX11_undo_29 : decode cX11_undo 29 = .ok (.getfield 13, 3) := by decide +kernel
theorem dX11_undo_32 : decode cX11_undo 32 = .ok (.iload_n 1, 1) := by decide +kernel
theorem dX11_undo_33 : decode cX11_undo 33 = .ok (.iaload, 1) := by decide +kernel
theorem dX11_undo_34 : decode cX11_undo 34 = .ok (.iastore, 1) := by decide +kernel
theorem dX11_undo_35 : decode cX11_undo 35 = .ok (.iinc 1 1, 3) := by decide +kernel
theorem dX11_undo_38 : decode cX11_undo 38 = .ok (.goto (-22), 3) := by decide +kernel
theorem dX11_undo_41 : decode cX11_undo 41 = .ok (.aload_n 0, 1) := by decide +kernel
theorem dX11_undo_42 : decode cX11_undo 42 = .ok (.invokevirtual 165, 3) := by decide +kernel
theorem dX11_undo_45 : decode cX11_undo 45 = .ok (.ireturn, 1) := by decide +kernel
theorem dX11_tear_0 : decode cX11_tear 0 = .ok (.aload_n 0, 1) := by decide +kernel
theorem dX11_tear_1 : decode cX11_tear 1 = .ok (.getfield 297, 3) := by decide +kernel
theorem dX11_tear_4 : decode cX11_tear 4 = .ok (.ifCond .eq 7, 3) := by decide +kernel
theorem dX11_tear_7 : decode cX11_tear 7 = .ok (.iconst 1, 1) := by decide +kernel
theorem dX11_tear_8 : decode cX11_tear 8 = .ok (.goto 4, 3) := by decide +kernel
theorem dX11_tear_11 : decode cX11_tear 11 = .ok (.iconst 0, 1) := by decide +kernel
theorem dX11_tear_12 : decode cX11_tear 12 = .ok (.istore_n 1, 1) := by decide +kernel
theorem dX11_tear_13 : decode cX11_tear 13 = .ok (.aload_n 0, 1) := by decide +kernel
theorem dX11_tear_14 : decode cX11_tear 14 = .ok (.iconst 0, 1) := by decide +kernel
theorem dX11_tear_15 : decode cX11_tear 15 = .ok (.putfield 297, 3) := by decide +kernel
theorem dX11_tear_18 : decode cX11_tear 18 = .ok (.iload_n 1, 1) := by decide +kernel
theorem dX11_tear_19 : decode cX11_tear 19 = .ok (.ireturn, 1) := by decide +kernel
theorem dX11_count_0 : decode cX11_count 0 = .ok (.iconst 0, 1) := by decide +kernel
theorem dX11_count_1 : decode cX11_count 1 = .ok (.istore_n 2, 1) := by decide +kernel
theorem dX11_count_2 : decode cX11_count 2 = .ok (.iload_n 1, 1) := by decide +kernel
theorem dX11_count_3 : decode cX11_count 3 = .ok (.tableswitch 156 0 7 #[45, 50, 87, 125, 130, 137, 142, 149], 45) := by decide +kernel
theorem dX11_count_48 : decode cX11_count 48 = .ok (.aload_n 0, 1) := by decide +kernel
theorem dX11_count_49 : decode cX11_count 49 = .ok (.invokevirtual 165, 3) := by decide +kernel
theorem dX11_count_52 : decode cX11_count 52 = .ok (.ireturn, 1) := by decide +kernel
theorem dX11_count_53 : decode cX11_count 53 = .ok (.iconst 0, 1) := by decide +kernel
theorem dX11_count_54 : decode cX11_count 54 = .ok (.istore_n 3, 1) := by decide +kernel
theorem dX11_count_55 : decode cX11_count 55 = .ok (.iload_n 3, 1) := by decide +kernel
theorem dX11_count_56 : decode cX11_count 56 = .ok (.bipush 8, 2) := by decide +kernel
theorem dX11_count_58 : decode cX11_count 58 = .ok (.if_icmp .ge 30, 3) := by decide +kernel
theorem dX11_count_61 : decode cX11_count 61 = .ok (.iload_n 2, 1) := by decide +kernel
theorem dX11_count_62 : decode cX11_count 62 = .ok (.aload_n 0, 1) := by decide +kernel
theorem dX11_count_63 : decode cX11_count 63 = .ok (.iload_n 3, 1) := by decide +kernel
theorem dX11_count_64 : decode cX11_count 64 = .ok (.invokevirtual 137, 3) := by decide +kernel
theorem dX11_count_67 : decode cX11_count 67 = .ok (.ifCond .eq 12, 3) := by decide +kernel
theorem dX11_count_70 : decode cX11_count 70 = .ok (.aload_n 0, 1) := by decide +kernel
theorem dX11_count_71 : decode cX11_count 71 = .ok (.iload_n 3, 1) := by decide +kernel
theorem dX11_count_72 : decode cX11_count 72 = .ok (.iconst 2, 1) := by decide +kernel
theorem dX11_count_73 : decode cX11_count 73 = .ok (.invokevirtual 53, 3) := by decide +kernel
theorem dX11_count_76 : decode cX11_count 76 = .ok (.goto 4, 3) := by decide +kernel
theorem dX11_count_79 : decode cX11_count 79 = .ok (.iconst 0, 1) := by decide +kernel
theorem dX11_count_80 : decode cX11_count 80 = .ok (.iadd, 1) := by decide +kernel
theorem dX11_count_81 : decode cX11_count 81 = .ok (.istore_n 2, 1) := by decide +kernel
theorem dX11_count_82 : decode cX11_count 82 = .ok (.iinc 3 1, 3) := by decide +kernel
theorem dX11_count_85 : decode cX11_count 85 = .ok (.goto (-30), 3) := by decide +kernel
theorem dX11_count_88 : decode cX11_count 88 = .ok (.iload_n 2, 1) := by decide +kernel
theorem dX11_count_89 : decode cX11_count 89 = .ok (.ireturn, 1) := by decide +kernel
theorem dX11_count_90 : decode cX11_count 90 = .ok (.iconst 0, 1) := by decide +kernel
theorem dX11_count_91 : decode cX11_count 91 = .ok (.istore_n 3, 1) := by decide +kernel
theorem dX11_count_92 : decode cX11_count 92 = .ok (.iload_n 3, 1) := by decide +kernel
theorem dX11_count_93 : decode cX11_count 93 = .ok (.sipush 192, 3) := by decide +kernel
theorem dX11_count_96 : decode cX11_count 96 = .ok (.if_icmp .ge 30, 3) := by decide +kernel
theorem dX11_count_99 : decode cX11_count 99 = .ok (.iload_n 2, 1) := by decide +kernel
theorem dX11_count_100 : decode cX11_count 100 = .ok (.aload_n 0, 1) := by decide +kernel
theorem dX11_count_101 : decode cX11_count 101 = .ok (.getfield 9, 3) := by decide +kernel
theorem dX11_count_104 : decode cX11_count 104 = .ok (.sipush 210, 3) := by decide +kernel
theorem dX11_count_107 : decode cX11_count 107 = .ok (.iload_n 3, 1) := by decide +kernel
theorem dX11_count_108 : decode cX11_count 108 = .ok (.iadd, 1) := by decide +kernel
theorem dX11_count_109 : decode cX11_count 109 = .ok (.iaload, 1) := by decide +kernel
theorem dX11_count_110 : decode cX11_count 110 = .ok (.ifCond .le 7, 3) := by decide +kernel
theorem dX11_count_113 : decode cX11_count 113 = .ok (.iconst 1, 1) := by decide +kernel
theorem dX11_count_114 : decode cX11_count 114 = .ok (.goto 4, 3) := by decide +kernel
theorem dX11_count_117 : decode cX11_count 117 = .ok (.iconst 0, 1) := by decide +kernel
theorem dX11_count_118 : decode cX11_count 118 = .ok (.iadd, 1) := by decide +kernel
theorem dX11_count_119 : decode cX11_count 119 = .ok (.istore_n 2, 1) := by decide +kernel
theorem dX11_count_120 : decode cX11_count 120 = .ok (.iinc 3 1, 3) := by decide +kernel
theorem dX11_count_123 : decode cX11_count 123 = .ok (.goto (-31), 3) := by decide +kernel
theorem dX11_count_126 : decode cX11_count 126 = .ok (.iload_n 2, 1) := by decide +kernel
theorem dX11_count_127 : decode cX11_count 127 = .ok (.ireturn, 1) := by decide +kernel
theorem dX11_count_128 : decode cX11_count 128 = .ok (.aload_n 0, 1) := by decide +kernel
theorem dX11_count_129 : decode cX11_count 129 = .ok (.invokevirtual 115, 3) := by decide +kernel
theorem dX11_count_132 : decode cX11_count 132 = .ok (.ireturn, 1) := by decide +kernel
theorem dX11_count_133 : decode cX11_count 133 = .ok (.aload_n 0, 1) := by decide +kernel
theorem dX11_count_134 : decode cX11_count 134 = .ok (.getfield 9, 3) := by decide +kernel
theorem dX11_count_137 : decode cX11_count 137 = .ok (.iconst 5, 1) := by decide +kernel
theorem dX11_count_138 : decode cX11_count 138 = .ok (.iaload, 1) := by decide +kernel
theorem dX11_count_139 : decode cX11_count 139 = .ok (.ireturn, 1) := by decide +kernel
theorem dX11_count_140 : decode cX11_count 140 = .ok (.aload_n 0, 1) := by decide +kernel
theorem dX11_count_141 : decode cX11_count 141 = .ok (.getfield 172, 3) := by decide +kernel
theorem dX11_count_144 : decode cX11_count 144 = .ok (.ireturn, 1) := by decide +kernel
theorem dX11_count_145 : decode cX11_count 145 = .ok (.aload_n 0, 1) := by decide +kernel
theorem dX11_count_146 : decode cX11_count 146 = .ok (.getfield 9, 3) := by decide +kernel
theorem dX11_count_149 : decode cX11_count 149 = .ok (.iconst 3, 1) := by decide +kernel
theorem dX11_count_150 : decode cX11_count 150 = .ok (.iaload, 1) := by decide +kernel
theorem dX11_count_151 : decode cX11_count 151 = .ok (.ireturn, 1) := by decide +kernel
theorem dX11_count_152 : decode cX11_count 152 = .ok (.aload_n 0, 1) := by decide +kernel
theorem dX11_count_153 : decode cX11_count 153 = .ok (.getfield 9, 3) := by decide +kernel
theorem dX11_count_156 : decode cX11_count 156 = .ok (.iconst 4, 1) := by decide +kernel
theorem dX11_count_157 : decode cX11_count 157 = .ok (.iaload, 1) := by decide +kernel
theorem dX11_count_158 : decode cX11_count 158 = .ok (.ireturn, 1) := by decide +kernel
theorem dX11_count_159 : decode cX11_count 159 = .ok (.aload_n 0, 1) := by decide +kernel
theorem dX11_count_160 : decode cX11_count 160 = .ok (.ldc 40, 2) := by decide +kernel
theorem dX11_count_162 : decode cX11_count 162 = .ok (.invokevirtual 94, 3) := by decide +kernel
theorem dX11_count_165 : decode cX11_count 165 = .ok (.ireturn, 1) := by decide +kernel
theorem dX11_status_0 : decode cX11_status 0 = .ok (.iload_n 1, 1) := by decide +kernel
theorem dX11_status_1 : decode cX11_status 1 = .ok (.i2l, 1) := by decide +kernel
theorem dX11_status_2 : decode cX11_status 2 = .ok (.ldc2_w 168, 3) := by decide +kernel
theorem dX11_status_5 : decode cX11_status 5 = .ok (.ldc2_w 300, 3) := by decide +kernel
theorem dX11_status_8 : decode cX11_status 8 = .ok (.invokestatic 43, 3) := by decide +kernel
theorem dX11_status_11 : decode cX11_status 11 = .ok (.ifCond .ne 10, 3) := by decide +kernel
theorem dX11_status_14 : decode cX11_status 14 = .ok (.aload_n 0, 1) := by decide +kernel
theorem dX11_status_15 : decode cX11_status 15 = .ok (.ldc 40, 2) := by decide +kernel
theorem dX11_status_17 : decode cX11_status 17 = .ok (.invokevirtual 94, 3) := by decide +kernel
theorem dX11_status_20 : decode cX11_status 20 = .ok (.ireturn, 1) := by decide +kernel
theorem dX11_status_21 : decode cX11_status 21 = .ok (.iconst 0, 1) := by decide +kernel
theorem dX11_status_22 : decode cX11_status 22 = .ok (.istore_n 2, 1) := by decide +kernel
theorem dX11_status_23 : decode cX11_status 23 = .ok (.iconst 0, 1) := by decide +kernel
theorem dX11_status_24 : decode cX11_status 24 = .ok (.istore_n 3, 1) := by decide +kernel
theorem dX11_status_25 : decode cX11_status 25 = .ok (.iload_n 3, 1) := by decide +kernel
theorem dX11_status_26 : decode cX11_status 26 = .ok (.bipush 7, 2) := by decide +kernel
theorem dX11_status_28 : decode cX11_status 28 = .ok (.if_icmp .ge 31, 3) := by decide +kernel
theorem dX11_status_31 : decode cX11_status 31 = .ok (.iload_n 2, 1) := by decide +kernel
theorem dX11_status_32 : decode cX11_status 32 = .ok (.iload_n 1, 1) := by decide +kernel
theorem dX11_status_33 : decode cX11_status 33 = .ok (.ifCond .lt 8, 3) := by decide +kernel
theorem dX11_status_36 : decode cX11_status 36 = .ok (.iload_n 1, 1) := by decide +kernel
theorem dX11_status_37 : decode cX11_status 37 = .ok (.iload_n 3, 1) := by decide +kernel
theorem dX11_status_38 : decode cX11_status 38 = .ok (.if_icmp .ne 12, 3) := by decide +kernel
theorem dX11_status_41 : decode cX11_status 41 = .ok (.aload_n 0, 1) := by decide +kernel
theorem dX11_status_42 : decode cX11_status 42 = .ok (.getfield 16, 3) := by decide +kernel
theorem dX11_status_45 : decode cX11_status 45 = .ok (.iload_n 3, 1) := by decide +kernel
theorem dX11_status_46 : decode cX11_status 46 = .ok (.iaload, 1) := by decide +kernel
theorem dX11_status_47 : decode cX11_status 47 = .ok (.goto 4, 3) := by decide +kernel
theorem dX11_status_50 : decode cX11_status 50 = .ok (.iconst 0, 1) := by decide +kernel
theorem dX11_status_51 : decode cX11_status 51 = .ok (.iadd, 1) := by decide +kernel
theorem dX11_status_52 : decode cX11_status 52 = .ok (.istore_n 2, 1) := by decide +kernel
theorem dX11_status_53 : decode cX11_status 53 = .ok (.iinc 3 1, 3) := by decide +kernel
theorem dX11_status_56 : decode cX11_status 56 = .ok (.goto (-31), 3) := by decide +kernel
theorem dX11_status_59 : decode cX11_status 59 = .ok (.iload_n 2, 1) := by decide +kernel
theorem dX11_status_60 : decode cX11_status 60 = .ok (.ireturn, 1) := by decide +kernel
theorem dJ9_abs_0f7a4_0 : decode cJ9_abs_0f7a4 0 = .ok (.iload_n 0, 1) := by decide +kernel
theorem dJ9_abs_0f7a4_1 : decode cJ9_abs_0f7a4 1 = .ok (.ifCond .ge 8, 3) := by decide +kernel
theorem dJ9_abs_0f7a4_4 : decode cJ9_abs_0f7a4 4 = .ok (.iload_n 0, 1) := by decide +kernel
theorem dJ9_abs_0f7a4_5 : decode cJ9_abs_0f7a4 5 = .ok (.ineg, 1) := by decide +kernel
theorem dJ9_abs_0f7a4_6 : decode cJ9_abs_0f7a4 6 = .ok (.goto 4, 3) := by decide +kernel
theorem dJ9_abs_0f7a4_9 : decode cJ9_abs_0f7a4 9 = .ok (.iload_n 0, 1) := by decide +kernel
theorem dJ9_abs_0f7a4_10 : decode cJ9_abs_0f7a4 10 = .ok (.ireturn, 1) := by decide +kernel
theorem dJ9_max_7cf53_0 : decode cJ9_max_7cf53 0 = .ok (.iload_n 0, 1) := by decide +kernel
theorem dJ9_max_7cf53_1 : decode cJ9_max_7cf53 1 = .ok (.iload_n 1, 1) := by decide +kernel
theorem dJ9_max_7cf53_2 : decode cJ9_max_7cf53 2 = .ok (.if_icmp .lt 7, 3) := by decide +kernel
theorem dJ9_max_7cf53_5 : decode cJ9_max_7cf53 5 = .ok (.iload_n 0, 1) := by decide +kernel
theorem dJ9_max_7cf53_6 : decode cJ9_max_7cf53 6 = .ok (.goto 4, 3) := by decide +kernel
theorem dJ9_max_7cf53_9 : decode cJ9_max_7cf53 9 = .ok (.iload_n 1, 1) := by decide +kernel
theorem dJ9_max_7cf53_10 : decode cJ9_max_7cf53 10 = .ok (.ireturn, 1) := by decide +kernel
theorem dJ9_min_7cf53_0 : decode cJ9_min_7cf53 0 = .ok (.iload_n 0, 1) := by decide +kernel
theorem dJ9_min_7cf53_1 : decode cJ9_min_7cf53 1 = .ok (.iload_n 1, 1) := by decide +kernel
theorem dJ9_min_7cf53_2 : decode cJ9_min_7cf53 2 = .ok (.if_icmp .gt 7, 3) := by decide +kernel
theorem dJ9_min_7cf53_5 : decode cJ9_min_7cf53 5 = .ok (.iload_n 0, 1) := by decide +kernel
theorem dJ9_min_7cf53_6 : decode cJ9_min_7cf53 6 = .ok (.goto 4, 3) := by decide +kernel
theorem dJ9_min_7cf53_9 : decode cJ9_min_7cf53 9 = .ok (.iload_n 1, 1) := by decide +kernel
theorem dJ9_min_7cf53_10 : decode cJ9_min_7cf53 10 = .ok (.ireturn, 1) := by decide +kernel
theorem dJ0_length_8abf5_0 : decode cJ0_length_8abf5 0 = .ok (.aload_n 0, 1) := by decide +kernel
theorem dJ0_length_8abf5_1 : decode cJ0_length_8abf5 1 = .ok (.getfield 9, 3) := by decide +kernel
theorem dJ0_length_8abf5_4 : decode cJ0_length_8abf5 4 = .ok (.arraylength, 1) := by decide +kernel
theorem dJ0_length_8abf5_5 : decode cJ0_length_8abf5 5 = .ok (.aload_n 0, 1) := by decide +kernel
theorem dJ0_length_8abf5_6 : decode cJ0_length_8abf5 6 = .ok (.invokevirtual 335, 3) := by decide +kernel
theorem dJ0_length_8abf5_9 : decode cJ0_length_8abf5 9 = .ok (.ishr, 1) := by decide +kernel
theorem dJ0_length_8abf5_10 : decode cJ0_length_8abf5 10 = .ok (.ireturn, 1) := by decide +kernel
theorem dJ0_charAt_5068e_0 : decode cJ0_charAt_5068e 0 = .ok (.aload_n 0, 1) := by decide +kernel
theorem dJ0_charAt_5068e_1 : decode cJ0_charAt_5068e 1 = .ok (.invokevirtual 492, 3) := by decide +kernel
theorem dJ0_charAt_5068e_4 : decode cJ0_charAt_5068e 4 = .ok (.ifCond .eq 12, 3) := by decide +kernel
theorem dJ0_charAt_5068e_7 : decode cJ0_charAt_5068e 7 = .ok (.aload_n 0, 1) := by decide +kernel
theorem dJ0_charAt_5068e_8 : decode cJ0_charAt_5068e 8 = .ok (.getfield 9, 3) := by decide +kernel
theorem dJ0_charAt_5068e_11 : decode cJ0_charAt_5068e 11 = .ok (.iload_n 1, 1) := by decide +kernel
theorem dJ0_charAt_5068e_12 : decode cJ0_charAt_5068e 12 = .ok (.invokestatic 495, 3) := by decide +kernel
theorem dJ0_charAt_5068e_15 : decode cJ0_charAt_5068e 15 = .ok (.ireturn, 1) := by decide +kernel
theorem dJ0_charAt_5068e_16 : decode cJ0_charAt_5068e 16 = .ok (.aload_n 0, 1) := by decide +kernel
theorem dJ0_charAt_5068e_17 : decode cJ0_charAt_5068e 17 = .ok (.getfield 9, 3) := by decide +kernel
theorem dJ0_charAt_5068e_20 : decode cJ0_charAt_5068e 20 = .ok (.iload_n 1, 1) := by decide +kernel
theorem dJ0_charAt_5068e_21 : decode cJ0_charAt_5068e 21 = .ok (.invokestatic 498, 3) := by decide +kernel
theorem dJ0_charAt_5068e_24 : decode cJ0_charAt_5068e 24 = .ok (.ireturn, 1) := by decide +kernel
theorem dJ0_coder_7d493_0 : decode cJ0_coder_7d493 0 = .ok (.getstatic 38, 3) := by decide +kernel
theorem dJ0_coder_7d493_3 : decode cJ0_coder_7d493 3 = .ok (.ifCond .eq 10, 3) := by decide +kernel
theorem dJ0_coder_7d493_6 : decode cJ0_coder_7d493 6 = .ok (.aload_n 0, 1) := by decide +kernel
theorem dJ0_coder_7d493_7 : decode cJ0_coder_7d493 7 = .ok (.getfield 15, 3) := by decide +kernel
theorem dJ0_coder_7d493_10 : decode cJ0_coder_7d493 10 = .ok (.goto 4, 3) := by decide +kernel
theorem dJ0_coder_7d493_13 : decode cJ0_coder_7d493 13 = .ok (.iconst 1, 1) := by decide +kernel
theorem dJ0_coder_7d493_14 : decode cJ0_coder_7d493 14 = .ok (.ireturn, 1) := by decide +kernel
theorem dJ0_isLatin1_aae02_0 : decode cJ0_isLatin1_aae02 0 = .ok (.getstatic 38, 3) := by decide +kernel
theorem dJ0_isLatin1_aae02_3 : decode cJ0_isLatin1_aae02 3 = .ok (.ifCond .eq 14, 3) := by decide +kernel
theorem dJ0_isLatin1_aae02_6 : decode cJ0_isLatin1_aae02 6 = .ok (.aload_n 0, 1) := by decide +kernel
theorem dJ0_isLatin1_aae02_7 : decode cJ0_isLatin1_aae02 7 = .ok (.getfield 15, 3) := by decide +kernel
theorem dJ0_isLatin1_aae02_10 : decode cJ0_isLatin1_aae02 10 = .ok (.ifCond .ne 7, 3) := by decide +kernel
theorem dJ0_isLatin1_aae02_13 : decode cJ0_isLatin1_aae02 13 = .ok (.iconst 1, 1) := by decide +kernel
theorem dJ0_isLatin1_aae02_14 : decode cJ0_isLatin1_aae02 14 = .ok (.goto 4, 3) := by decide +kernel
theorem dJ0_isLatin1_aae02_17 : decode cJ0_isLatin1_aae02 17 = .ok (.iconst 0, 1) := by decide +kernel
theorem dJ0_isLatin1_aae02_18 : decode cJ0_isLatin1_aae02 18 = .ok (.ireturn, 1) := by decide +kernel
theorem dJ0_checkIndex_df160_0 : decode cJ0_checkIndex_df160 0 = .ok (.iload_n 0, 1) := by decide +kernel
theorem dJ0_checkIndex_df160_1 : decode cJ0_checkIndex_df160 1 = .ok (.iload_n 1, 1) := by decide +kernel
theorem dJ0_checkIndex_df160_2 : decode cJ0_checkIndex_df160 2 = .ok (.getstatic 1053, 3) := by decide +kernel
theorem dJ0_checkIndex_df160_5 : decode cJ0_checkIndex_df160 5 = .ok (.invokestatic 1059, 3) := by decide +kernel
theorem dJ0_checkIndex_df160_8 : decode cJ0_checkIndex_df160 8 = .ok (.pop, 1) := by decide +kernel
theorem dJ0_checkIndex_df160_9 : decode cJ0_checkIndex_df160 9 = .ok (.return_, 1) := by decide +kernel
theorem dJ1_charAt_3b067_0 : decode cJ1_charAt_3b067 0 = .ok (.iload_n 1, 1) := by decide +kernel
theorem dJ1_charAt_3b067_1 : decode cJ1_charAt_3b067 1 = .ok (.aload_n 0, 1) := by decide +kernel
theorem dJ1_charAt_3b067_2 : decode cJ1_charAt_3b067 2 = .ok (.arraylength, 1) := by decide +kernel
theorem dJ1_charAt_3b067_3 : decode cJ1_charAt_3b067 3 = .ok (.invokestatic 9, 3) := by decide +kernel
theorem dJ1_charAt_3b067_6 : decode cJ1_charAt_3b067 6 = .ok (.aload_n 0, 1) := by decide +kernel
theorem dJ1_charAt_3b067_7 : decode cJ1_charAt_3b067 7 = .ok (.iload_n 1, 1) := by decide +kernel
theorem dJ1_charAt_3b067_8 : decode cJ1_charAt_3b067 8 = .ok (.baload, 1) := by decide +kernel
theorem dJ1_charAt_3b067_9 : decode cJ1_charAt_3b067 9 = .ok (.sipush 255, 3) := by decide +kernel
theorem dJ1_charAt_3b067_12 : decode cJ1_charAt_3b067 12 = .ok (.iand, 1) := by decide +kernel
theorem dJ1_charAt_3b067_13 : decode cJ1_charAt_3b067 13 = .ok (.i2c, 1) := by decide +kernel
theorem dJ1_charAt_3b067_14 : decode cJ1_charAt_3b067 14 = .ok (.ireturn, 1) := by decide +kernel
theorem dJ2_getChar_3b067_0 : decode cJ2_getChar_3b067 0 = .ok (.getstatic 44, 3) := by decide +kernel
theorem dJ2_getChar_3b067_3 : decode cJ2_getChar_3b067 3 = .ok (.ifCond .ne 25, 3) := by decide +kernel
theorem dJ2_getChar_3b067_6 : decode cJ2_getChar_3b067 6 = .ok (.iload_n 1, 1) := by decide +kernel
theorem dJ2_getChar_3b067_7 : decode cJ2_getChar_3b067 7 = .ok (.ifCond .lt 11, 3) := by decide +kernel
theorem dJ2_getChar_3b067_10 : decode cJ2_getChar_3b067 10 = .ok (.iload_n 1, 1) := by decide +kernel
theorem dJ2_getChar_3b067_11 : decode cJ2_getChar_3b067 11 = .ok (.aload_n 0, 1) := by decide +kernel
theorem dJ2_getChar_3b067_12 : decode cJ2_getChar_3b067 12 = .ok (.invokestatic 48, 3) := by decide +kernel
theorem dJ2_getChar_3b067_15 : decode cJ2_getChar_3b067 15 = .ok (.if_icmp .lt 13, 3) := by decide +kernel
theorem dJ2_getChar_3b067_18 : decode cJ2_getChar_3b067 18 = .ok (.new 52, 3) := by decide +kernel
theorem dJ2_getChar_3b067_21 : decode cJ2_getChar_3b067 21 = .ok (.dup, 1) := by decide +kernel
theorem dJ2_getChar_3b067_22 : decode cJ2_getChar_3b067 22 = .ok (.ldc 54, 2) := by decide +kernel
theorem dJ2_getChar_3b067_24 : decode cJ2_getChar_3b067 24 = .ok (.invokespecial 56, 3) := by decide +kernel
theorem dJ2_getChar_3b067_27 : decode cJ2_getChar_3b067 27 = .ok (.athrow, 1) := by decide +kernel
theorem dJ2_getChar_3b067_28 : decode cJ2_getChar_3b067 28 = .ok (.iload_n 1, 1) := by decide +kernel
theorem dJ2_getChar_3b067_29 : decode cJ2_getChar_3b067 29 = .ok (.iconst 1, 1) := by decide +kernel
theorem dJ2_getChar_3b067_30 : decode cJ2_getChar_3b067 30 = .ok (.ishl, 1) := by decide +kernel
theorem dJ2_getChar_3b067_31 : decode cJ2_getChar_3b067 31 = .ok (.istore_n 1, 1) := by decide +kernel
theorem dJ2_getChar_3b067_32 : decode cJ2_getChar_3b067 32 = .ok (.aload_n 0, 1) := by decide +kernel
theorem dJ2_getChar_3b067_33 : decode cJ2_getChar_3b067 33 = .ok (.iload_n 1, 1) := by decide +kernel
theorem dJ2_getChar_3b067_34 : decode cJ2_getChar_3b067 34 = .ok (.iinc 1 1, 3) := by decide +kernel
theorem dJ2_getChar_3b067_37 : decode cJ2_getChar_3b067 37 = .ok (.baload, 1) := by decide +kernel
theorem dJ2_getChar_3b067_38 : decode cJ2_getChar_3b067 38 = .ok (.sipush 255, 3) := by decide +kernel
theorem dJ2_getChar_3b067_41 : decode cJ2_getChar_3b067 41 = .ok (.iand, 1) := by decide +kernel
theorem dJ2_getChar_3b067_42 : decode cJ2_getChar_3b067 42 = .ok (.getstatic 59, 3) := by decide +kernel
theorem dJ2_getChar_3b067_45 : decode cJ2_getChar_3b067 45 = .ok (.ishl, 1) := by decide +kernel
theorem dJ2_getChar_3b067_46 : decode cJ2_getChar_3b067 46 = .ok (.aload_n 0, 1) := by decide +kernel
theorem dJ2_getChar_3b067_47 : decode cJ2_getChar_3b067 47 = .ok (.iload_n 1, 1) := by decide +kernel
theorem dJ2_getChar_3b067_48 : decode cJ2_getChar_3b067 48 = .ok (.baload, 1) := by decide +kernel
theorem dJ2_getChar_3b067_49 : decode cJ2_getChar_3b067 49 = .ok (.sipush 255, 3) := by decide +kernel
theorem dJ2_getChar_3b067_52 : decode cJ2_getChar_3b067 52 = .ok (.iand, 1) := by decide +kernel
theorem dJ2_getChar_3b067_53 : decode cJ2_getChar_3b067 53 = .ok (.getstatic 63, 3) := by decide +kernel
theorem dJ2_getChar_3b067_56 : decode cJ2_getChar_3b067 56 = .ok (.ishl, 1) := by decide +kernel
theorem dJ2_getChar_3b067_57 : decode cJ2_getChar_3b067 57 = .ok (.ior, 1) := by decide +kernel
theorem dJ2_getChar_3b067_58 : decode cJ2_getChar_3b067 58 = .ok (.i2c, 1) := by decide +kernel
theorem dJ2_getChar_3b067_59 : decode cJ2_getChar_3b067 59 = .ok (.ireturn, 1) := by decide +kernel
theorem dJ2_length_9d52b_0 : decode cJ2_length_9d52b 0 = .ok (.aload_n 0, 1) := by decide +kernel
theorem dJ2_length_9d52b_1 : decode cJ2_length_9d52b 1 = .ok (.arraylength, 1) := by decide +kernel
theorem dJ2_length_9d52b_2 : decode cJ2_length_9d52b 2 = .ok (.iconst 1, 1) := by decide +kernel
theorem dJ2_length_9d52b_3 : decode cJ2_length_9d52b 3 = .ok (.ishr, 1) := by decide +kernel
theorem dJ2_length_9d52b_4 : decode cJ2_length_9d52b 4 = .ok (.ireturn, 1) := by decide +kernel
theorem dJ2_charAt_3b067_0 : decode cJ2_charAt_3b067 0 = .ok (.iload_n 1, 1) := by decide +kernel
theorem dJ2_charAt_3b067_1 : decode cJ2_charAt_3b067 1 = .ok (.aload_n 0, 1) := by decide +kernel
theorem dJ2_charAt_3b067_2 : decode cJ2_charAt_3b067 2 = .ok (.invokestatic 67, 3) := by decide +kernel
theorem dJ2_charAt_3b067_5 : decode cJ2_charAt_3b067 5 = .ok (.aload_n 0, 1) := by decide +kernel
theorem dJ2_charAt_3b067_6 : decode cJ2_charAt_3b067 6 = .ok (.iload_n 1, 1) := by decide +kernel
theorem dJ2_charAt_3b067_7 : decode cJ2_charAt_3b067 7 = .ok (.invokestatic 71, 3) := by decide +kernel
theorem dJ2_charAt_3b067_10 : decode cJ2_charAt_3b067 10 = .ok (.ireturn, 1) := by decide +kernel
theorem dJ2_checkIndex_2214a_0 : decode cJ2_checkIndex_2214a 0 = .ok (.iload_n 0, 1) := by decide +kernel
theorem dJ2_checkIndex_2214a_1 : decode cJ2_checkIndex_2214a 1 = .ok (.aload_n 1, 1) := by decide +kernel
theorem dJ2_checkIndex_2214a_2 : decode cJ2_checkIndex_2214a 2 = .ok (.invokestatic 48, 3) := by decide +kernel
theorem dJ2_checkIndex_2214a_5 : decode cJ2_checkIndex_2214a 5 = .ok (.invokestatic 414, 3) := by decide +kernel
theorem dJ2_checkIndex_2214a_8 : decode cJ2_checkIndex_2214a 8 = .ok (.return_, 1) := by decide +kernel
theorem dJ7_fill_53178_0 : decode cJ7_fill_53178 0 = .ok (.iconst 0, 1) := by decide +kernel
theorem dJ7_fill_53178_1 : decode cJ7_fill_53178 1 = .ok (.istore_n 2, 1) := by decide +kernel
theorem dJ7_fill_53178_2 : decode cJ7_fill_53178 2 = .ok (.aload_n 0, 1) := by decide +kernel
theorem dJ7_fill_53178_3 : decode cJ7_fill_53178 3 = .ok (.arraylength, 1) := by decide +kernel
theorem dJ7_fill_53178_4 : decode cJ7_fill_53178 4 = .ok (.istore_n 3, 1) := by decide +kernel
theorem dJ7_fill_53178_5 : decode cJ7_fill_53178 5 = .ok (.iload_n 2, 1) := by decide +kernel
theorem dJ7_fill_53178_6 : decode cJ7_fill_53178 6 = .ok (.iload_n 3, 1) := by decide +kernel
theorem dJ7_fill_53178_7 : decode cJ7_fill_53178 7 = .ok (.if_icmp .ge 13, 3) := by decide +kernel
theorem dJ7_fill_53178_10 : decode cJ7_fill_53178 10 = .ok (.aload_n 0, 1) := by decide +kernel
theorem dJ7_fill_53178_11 : decode cJ7_fill_53178 11 = .ok (.iload_n 2, 1) := by decide +kernel
theorem dJ7_fill_53178_12 : decode cJ7_fill_53178 12 = .ok (.iload_n 1, 1) := by decide +kernel
theorem dJ7_fill_53178_13 : decode cJ7_fill_53178 13 = .ok (.iastore, 1) := by decide +kernel
theorem dJ7_fill_53178_14 : decode cJ7_fill_53178 14 = .ok (.iinc 2 1, 3) := by decide +kernel
theorem dJ7_fill_53178_17 : decode cJ7_fill_53178 17 = .ok (.goto (-12), 3) := by decide +kernel
theorem dJ7_fill_53178_20 : decode cJ7_fill_53178 20 = .ok (.return_, 1) := by decide +kernel
theorem dJ3_checkIndex_8e157_0 : decode cJ3_checkIndex_8e157 0 = .ok (.iload_n 0, 1) := by decide +kernel
theorem dJ3_checkIndex_8e157_1 : decode cJ3_checkIndex_8e157 1 = .ok (.ifCond .lt 8, 3) := by decide +kernel
theorem dJ3_checkIndex_8e157_4 : decode cJ3_checkIndex_8e157 4 = .ok (.iload_n 0, 1) := by decide +kernel
theorem dJ3_checkIndex_8e157_5 : decode cJ3_checkIndex_8e157 5 = .ok (.iload_n 1, 1) := by decide +kernel
theorem dJ3_checkIndex_8e157_6 : decode cJ3_checkIndex_8e157 6 = .ok (.if_icmp .lt 10, 3) := by decide +kernel
theorem dJ3_checkIndex_8e157_9 : decode cJ3_checkIndex_8e157 9 = .ok (.aload_n 2, 1) := by decide +kernel
theorem dJ3_checkIndex_8e157_10 : decode cJ3_checkIndex_8e157 10 = .ok (.iload_n 0, 1) := by decide +kernel
theorem dJ3_checkIndex_8e157_11 : decode cJ3_checkIndex_8e157 11 = .ok (.iload_n 1, 1) := by decide +kernel
theorem dJ3_checkIndex_8e157_12 : decode cJ3_checkIndex_8e157 12 = .ok (.invokestatic 95, 3) := by decide +kernel
theorem dJ3_checkIndex_8e157_15 : decode cJ3_checkIndex_8e157 15 = .ok (.athrow, 1) := by decide +kernel
theorem dJ3_checkIndex_8e157_16 : decode cJ3_checkIndex_8e157 16 = .ok (.iload_n 0, 1) := by decide +kernel
theorem dJ3_checkIndex_8e157_17 : decode cJ3_checkIndex_8e157 17 = .ok (.ireturn, 1) := by decide +kernel
theorem dL_law_0 : decode cL_law 0 = .ok (.new 7, 3) := by decide +kernel
theorem dL_law_3 : decode cL_law 3 = .ok (.dup, 1) := by decide +kernel
theorem dL_law_4 : decode cL_law 4 = .ok (.invokespecial 9, 3) := by decide +kernel
theorem dL_law_7 : decode cL_law 7 = .ok (.astore_n 1, 1) := by decide +kernel
theorem dL_law_8 : decode cL_law 8 = .ok (.new 10, 3) := by decide +kernel
theorem dL_law_11 : decode cL_law 11 = .ok (.dup, 1) := by decide +kernel
theorem dL_law_12 : decode cL_law 12 = .ok (.invokespecial 12, 3) := by decide +kernel
theorem dL_law_15 : decode cL_law 15 = .ok (.astore_n 2, 1) := by decide +kernel
theorem dL_law_16 : decode cL_law 16 = .ok (.iconst 0, 1) := by decide +kernel
theorem dL_law_17 : decode cL_law 17 = .ok (.istore_n 3, 1) := by decide +kernel
theorem dL_law_18 : decode cL_law 18 = .ok (.iload_n 3, 1) := by decide +kernel
theorem dL_law_19 : decode cL_law 19 = .ok (.aload_n 0, 1) := by decide +kernel
theorem dL_law_20 : decode cL_law 20 = .ok (.arraylength, 1) := by decide +kernel
theorem dL_law_21 : decode cL_law 21 = .ok (.bipush 6, 2) := by decide +kernel
theorem dL_law_23 : decode cL_law 23 = .ok (.isub, 1) := by decide +kernel
theorem dL_law_24 : decode cL_law 24 = .ok (.if_icmp .gt 1520, 3) := by decide +kernel
theorem dL_law_27 : decode cL_law 27 = .ok (.aload_n 0, 1) := by decide +kernel
theorem dL_law_28 : decode cL_law 28 = .ok (.iload_n 3, 1) := by decide +kernel
theorem dL_law_29 : decode cL_law 29 = .ok (.iaload, 1) := by decide +kernel
theorem dL_law_30 : decode cL_law 30 = .ok (.bipush 63, 2) := by decide +kernel
theorem dL_law_32 : decode cL_law 32 = .ok (.iand, 1) := by decide +kernel
theorem dL_law_33 : decode cL_law 33 = .ok (.tableswitch 1505 0 41 #[183, 216, 249, 282, 305, 328, 351, 374, 417, 450, 473, 496, 529, 552, 585, 598, 611, 644, 667, 720, 773, 832, 875, 908, 951, 1004, 1047, 1070, 1083, 1116, 1139, 1172, 1205, 1248, 1291, 1354, 1387, 1420, 1433, 1446, 1459, 1482], 183) := by decide +kernel
theorem dL_law_216 : decode cL_law 216 = .ok (.aload_n 1, 1) := by decide +kernel
theorem dL_law_217 : decode cL_law 217 = .ok (.aload_n 0, 1) := by decide +kernel
theorem dL_law_218 : decode cL_law 218 = .ok (.iload_n 3, 1) := by decide +kernel
theorem dL_law_219 : decode cL_law 219 = .ok (.iconst 1, 1) := by decide +kernel
theorem dL_law_220 : decode cL_law 220 = .ok (.iadd, 1) := by decide +kernel
theorem dL_law_221 : decode cL_law 221 = .ok (.iaload, 1) := by decide +kernel
theorem dL_law_222 : decode cL_law 222 = .ok (.aload_n 0, 1) := by decide +kernel
theorem dL_law_223 : decode cL_law 223 = .ok (.iload_n 3, 1) := by decide +kernel
theorem dL_law_224 : decode cL_law 224 = .ok (.iconst 2, 1) := by decide +kernel
theorem dL_law_225 : decode cL_law 225 = .ok (.iadd, 1) := by decide +kernel
theorem dL_law_226 : decode cL_law 226 = .ok (.iaload, 1) := by decide +kernel
theorem dL_law_227 : decode cL_law 227 = .ok (.invokevirtual 13, 3) := by decide +kernel
theorem dL_law_230 : decode cL_law 230 = .ok (.aload_n 2, 1) := by decide +kernel
theorem dL_law_231 : decode cL_law 231 = .ok (.aload_n 0, 1) := by decide +kernel
theorem dL_law_232 : decode cL_law 232 = .ok (.iload_n 3, 1) := by decide +kernel
theorem dL_law_233 : decode cL_law 233 = .ok (.iconst 1, 1) := by decide +kernel
theorem dL_law_234 : decode cL_law 234 = .ok (.iadd, 1) := by decide +kernel
theorem dL_law_235 : decode cL_law 235 = .ok (.iaload, 1) := by decide +kernel
theorem dL_law_236 : decode cL_law 236 = .ok (.aload_n 0, 1) := by decide +kernel
theorem dL_law_237 : decode cL_law 237 = .ok (.iload_n 3, 1) := by decide +kernel
theorem dL_law_238 : decode cL_law 238 = .ok (.iconst 2, 1) := by decide +kernel
theorem dL_law_239 : decode cL_law 239 = .ok (.iadd, 1) := by decide +kernel
theorem dL_law_240 : decode cL_law 240 = .ok (.iaload, 1) := by decide +kernel
theorem dL_law_241 : decode cL_law 241 = .ok (.invokevirtual 17, 3) := by decide +kernel
theorem dL_law_244 : decode cL_law 244 = .ok (.if_icmp .eq 1294, 3) := by decide +kernel
theorem dL_law_247 : decode cL_law 247 = .ok (.iconst 0, 1) := by decide +kernel
theorem dL_law_248 : decode cL_law 248 = .ok (.ireturn, 1) := by decide +kernel
theorem dL_law_249 : decode cL_law 249 = .ok (.aload_n 1, 1) := by decide +kernel
theorem dL_law_250 : decode cL_law 250 = .ok (.aload_n 0, 1) := by decide +kernel
theorem dL_law_251 : decode cL_law 251 = .ok (.iload_n 3, 1) := by decide +kernel
theorem dL_law_252 : decode cL_law 252 = .ok (.iconst 1, 1) := by decide +kernel
theorem dL_law_253 : decode cL_law 253 = .ok (.iadd, 1) := by decide +kernel
theorem dL_law_254 : decode cL_law 254 = .ok (.iaload, 1) := by decide +kernel
theorem dL_law_255 : decode cL_law 255 = .ok (.aload_n 0, 1) := by decide +kernel
theorem dL_law_256 : decode cL_law 256 = .ok (.iload_n 3, 1) := by decide +kernel
theorem dL_law_257 : decode cL_law 257 = .ok (.iconst 2, 1) := by decide +kernel
theorem dL_law_258 : decode cL_law 258 = .ok (.iadd, 1) := by decide +kernel
theorem dL_law_259 : decode cL_law 259 = .ok (.iaload, 1) := by decide +kernel
theorem dL_law_260 : decode cL_law 260 = .ok (.invokevirtual 18, 3) := by decide +kernel
theorem dL_law_263 : decode cL_law 263 = .ok (.aload_n 2, 1) := by decide +kernel
theorem dL_law_264 : decode cL_law 264 = .ok (.aload_n 0, 1) := by decide +kernel
theorem dL_law_265 : decode cL_law 265 = .ok (.iload_n 3, 1) := by decide +kernel
theorem dL_law_266 : decode cL_law 266 = .ok (.iconst 1, 1) := by decide +kernel
theorem dL_law_267 : decode cL_law 267 = .ok (.iadd, 1) := by decide +kernel
theorem dL_law_268 : decode cL_law 268 = .ok (.iaload, 1) := by decide +kernel
theorem dL_law_269 : decode cL_law 269 = .ok (.aload_n 0, 1) := by decide +kernel
theorem dL_law_270 : decode cL_law 270 = .ok (.iload_n 3, 1) := by decide +kernel
theorem dL_law_271 : decode cL_law 271 = .ok (.iconst 2, 1) := by decide +kernel
theorem dL_law_272 : decode cL_law 272 = .ok (.iadd, 1) := by decide +kernel
theorem dL_law_273 : decode cL_law 273 = .ok (.iaload, 1) := by decide +kernel
theorem dL_law_274 : decode cL_law 274 = .ok (.invokevirtual 21, 3) := by decide +kernel
theorem dL_law_277 : decode cL_law 277 = .ok (.if_icmp .eq 1261, 3) := by decide +kernel
theorem dL_law_280 : decode cL_law 280 = .ok (.iconst 0, 1) := by decide +kernel
theorem dL_law_281 : decode cL_law 281 = .ok (.ireturn, 1) := by decide +kernel
theorem dL_law_282 : decode cL_law 282 = .ok (.aload_n 1, 1) := by decide +kernel
theorem dL_law_283 : decode cL_law 283 = .ok (.aload_n 0, 1) := by decide +kernel
theorem dL_law_284 : decode cL_law 284 = .ok (.iload_n 3, 1) := by decide +kernel
theorem dL_law_285 : decode cL_law 285 = .ok (.iconst 1, 1) := by decide +kernel
theorem dL_law_286 : decode cL_law 286 = .ok (.iadd, 1) := by decide +kernel
theorem dL_law_287 : decode cL_law 287 = .ok (.iaload, 1) := by decide +kernel
theorem dL_law_288 : decode cL_law 288 = .ok (.aload_n 0, 1) := by decide +kernel
theorem dL_law_289 : decode cL_law 289 = .ok (.iload_n 3, 1) := by decide +kernel
theorem dL_law_290 : decode cL_law 290 = .ok (.iconst 2, 1) := by decide +kernel
theorem dL_law_291 : decode cL_law 291 = .ok (.iadd, 1) := by decide +kernel
theorem dL_law_292 : decode cL_law 292 = .ok (.iaload, 1) := by decide +kernel
theorem dL_law_293 : decode cL_law 293 = .ok (.invokevirtual 22, 3) := by decide +kernel
theorem dL_law_296 : decode cL_law 296 = .ok (.aload_n 2, 1) := by decide +kernel
theorem dL_law_297 : decode cL_law 297 = .ok (.aload_n 0, 1) := by decide +kernel
theorem dL_law_298 : decode cL_law 298 = .ok (.iload_n 3, 1) := by decide +kernel
theorem dL_law_299 : decode cL_law 299 = .ok (.iconst 1, 1) := by decide +kernel
theorem dL_law_300 : decode cL_law 300 = .ok (.iadd, 1) := by decide +kernel
theorem dL_law_301 : decode cL_law 301 = .ok (.iaload, 1) := by decide +kernel
theorem dL_law_302 : decode cL_law 302 = .ok (.aload_n 0, 1) := by decide +kernel
theorem dL_law_303 : decode cL_law 303 = .ok (.iload_n 3, 1) := by decide +kernel
theorem dL_law_304 : decode cL_law 304 = .ok (.iconst 2, 1) := by decide +kernel
theorem dL_law_305 : decode cL_law 305 = .ok (.iadd, 1) := by decide +kernel
theorem dL_law_306 : decode cL_law 306 = .ok (.iaload, 1) := by decide +kernel
theorem dL_law_307 : decode cL_law 307 = .ok (.invokevirtual 25, 3) := by decide +kernel
theorem dL_law_310 : decode cL_law 310 = .ok (.if_icmp .eq 1228, 3) := by decide +kernel
theorem dL_law_313 : decode cL_law 313 = .ok (.iconst 0, 1) := by decide +kernel
theorem dL_law_314 : decode cL_law 314 = .ok (.ireturn, 1) := by decide +kernel
theorem dL_law_315 : decode cL_law 315 = .ok (.aload_n 1, 1) := by decide +kernel
theorem dL_law_316 : decode cL_law 316 = .ok (.aload_n 0, 1) := by decide +kernel
theorem dL_law_317 : decode cL_law 317 = .ok (.iload_n 3, 1) := by decide +kernel
theorem dL_law_318 : decode cL_law 318 = .ok (.iconst 1, 1) := by decide +kernel
theorem dL_law_319 : decode cL_law 319 = .ok (.iadd, 1) := by decide +kernel
theorem dL_law_320 : decode cL_law 320 = .ok (.iaload, 1) := by decide +kernel
theorem dL_law_321 : decode cL_law 321 = .ok (.invokevirtual 26, 3) := by decide +kernel
theorem dL_law_324 : decode cL_law 324 = .ok (.aload_n 2, 1) := by decide +kernel
theorem dL_law_325 : decode cL_law 325 = .ok (.aload_n 0, 1) := by decide +kernel
theorem dL_law_326 : decode cL_law 326 = .ok (.iload_n 3, 1) := by decide +kernel
theorem dL_law_327 : decode cL_law 327 = .ok (.iconst 1, 1) := by decide +kernel
theorem dL_law_328 : decode cL_law 328 = .ok (.iadd, 1) := by decide +kernel
theorem dL_law_329 : decode cL_law 329 = .ok (.iaload, 1) := by decide +kernel
theorem dL_law_330 : decode cL_law 330 = .ok (.invokevirtual 30, 3) := by decide +kernel
theorem dL_law_333 : decode cL_law 333 = .ok (.if_icmp .eq 1205, 3) := by decide +kernel
theorem dL_law_336 : decode cL_law 336 = .ok (.iconst 0, 1) := by decide +kernel
theorem dL_law_337 : decode cL_law 337 = .ok (.ireturn, 1) := by decide +kernel
theorem dL_law_338 : decode cL_law 338 = .ok (.aload_n 1, 1) := by decide +kernel
theorem dL_law_339 : decode cL_law 339 = .ok (.aload_n 0, 1) := by decide +kernel
theorem dL_law_340 : decode cL_law 340 = .ok (.iload_n 3, 1) := by decide +kernel
theorem dL_law_341 : decode cL_law 341 = .ok (.iconst 1, 1) := by decide +kernel
theorem dL_law_342 : decode cL_law 342 = .ok (.iadd, 1) := by decide +kernel
theorem dL_law_343 : decode cL_law 343 = .ok (.iaload, 1) := by decide +kernel
theorem dL_law_344 : decode cL_law 344 = .ok (.invokevirtual 31, 3) := by decide +kernel
theorem dL_law_347 : decode cL_law 347 = .ok (.aload_n 2, 1) := by decide +kernel
theorem dL_law_348 : decode cL_law 348 = .ok (.aload_n 0, 1) := by decide +kernel
theorem dL_law_349 : decode cL_law 349 = .ok (.iload_n 3, 1) := by decide +kernel
theorem dL_law_350 : decode cL_law 350 = .ok (.iconst 1, 1) := by decide +kernel
theorem dL_law_351 : decode cL_law 351 = .ok (.iadd, 1) := by decide +kernel
theorem dL_law_352 : decode cL_law 352 = .ok (.iaload, 1) := by decide +kernel
theorem dL_law_353 : decode cL_law 353 = .ok (.invokevirtual 34, 3) := by decide +kernel
theorem dL_law_356 : decode cL_law 356 = .ok (.if_icmp .eq 1182, 3) := by decide +kernel
theorem dL_law_359 : decode cL_law 359 = .ok (.iconst 0, 1) := by decide +kernel
theorem dL_law_360 : decode cL_law 360 = .ok (.ireturn, 1) := by decide +kernel
theorem dL_law_361 : decode cL_law 361 = .ok (.aload_n 1, 1) := by decide +kernel
theorem dL_law_362 : decode cL_law 362 = .ok (.aload_n 0, 1) := by decide +kernel
theorem dL_law_363 : decode cL_law 363 = .ok (.iload_n 3, 1) := by decide +kernel
theorem dL_law_364 : decode cL_law 364 = .ok (.iconst 1, 1) := by decide +kernel
theorem dL_law_365 : decode cL_law 365 = .ok (.iadd, 1) := by decide +kernel
theorem dL_law_366 : decode cL_law 366 = .ok (.iaload, 1) := by decide +kernel
theorem dL_law_367 : decode cL_law 367 = .ok (.invokevirtual 35, 3) := by decide +kernel
theorem dL_law_370 : decode cL_law 370 = .ok (.aload_n 2, 1) := by decide +kernel
theorem dL_law_371 : decode cL_law 371 = .ok (.aload_n 0, 1) := by decide +kernel
theorem dL_law_372 : decode cL_law 372 = .ok (.iload_n 3, 1) := by decide +kernel
theorem dL_law_373 : decode cL_law 373 = .ok (.iconst 1, 1) := by decide +kernel
theorem dL_law_374 : decode cL_law 374 = .ok (.iadd, 1) := by decide +kernel
theorem dL_law_375 : decode cL_law 375 = .ok (.iaload, 1) := by decide +kernel
theorem dL_law_376 : decode cL_law 376 = .ok (.invokevirtual 38, 3) := by decide +kernel
theorem dL_law_379 : decode cL_law 379 = .ok (.if_icmp .eq 1159, 3) := by decide +kernel
theorem dL_law_382 : decode cL_law 382 = .ok (.iconst 0, 1) := by decide +kernel
theorem dL_law_383 : decode cL_law 383 = .ok (.ireturn, 1) := by decide +kernel
theorem dL_law_384 : decode cL_law 384 = .ok (.aload_n 1, 1) := by decide +kernel
theorem dL_law_385 : decode cL_law 385 = .ok (.aload_n 0, 1) := by decide +kernel
theorem dL_law_386 : decode cL_law 386 = .ok (.iload_n 3, 1) := by decide +kernel
theorem dL_law_387 : decode cL_law 387 = .ok (.iconst 1, 1) := by decide +kernel
theorem dL_law_388 : decode cL_law 388 = .ok (.iadd, 1) := by decide +kernel
theorem dL_law_389 : decode cL_law 389 = .ok (.iaload, 1) := by decide +kernel
theorem dL_law_390 : decode cL_law 390 = .ok (.invokevirtual 39, 3) := by decide +kernel
theorem dL_law_393 : decode cL_law 393 = .ok (.aload_n 2, 1) := by decide +kernel
theorem dL_law_394 : decode cL_law 394 = .ok (.aload_n 0, 1) := by decide +kernel
theorem dL_law_395 : decode cL_law 395 = .ok (.iload_n 3, 1) := by decide +kernel
theorem dL_law_396 : decode cL_law 396 = .ok (.iconst 1, 1) := by decide +kernel
theorem dL_law_397 : decode cL_law 397 = .ok (.iadd, 1) := by decide +kernel
theorem dL_law_398 : decode cL_law 398 = .ok (.iaload, 1) := by decide +kernel
theorem dL_law_399 : decode cL_law 399 = .ok (.invokevirtual 42, 3) := by decide +kernel
theorem dL_law_402 : decode cL_law 402 = .ok (.if_icmp .eq 1136, 3) := by decide +kernel
theorem dL_law_405 : decode cL_law 405 = .ok (.iconst 0, 1) := by decide +kernel
theorem dL_law_406 : decode cL_law 406 = .ok (.ireturn, 1) := by decide +kernel
theorem dL_law_407 : decode cL_law 407 = .ok (.aload_n 1, 1) := by decide +kernel
theorem dL_law_408 : decode cL_law 408 = .ok (.aload_n 0, 1) := by decide +kernel
theorem dL_law_409 : decode cL_law 409 = .ok (.iload_n 3, 1) := by decide +kernel
theorem dL_law_410 : decode cL_law 410 = .ok (.iconst 1, 1) := by decide +kernel
theorem dL_law_411 : decode cL_law 411 = .ok (.iadd, 1) := by decide +kernel
theorem dL_law_412 : decode cL_law 412 = .ok (.iaload, 1) := by decide +kernel
theorem dL_law_413 : decode cL_law 413 = .ok (.aload_n 0, 1) := by decide +kernel
theorem dL_law_414 : decode cL_law 414 = .ok (.iload_n 3, 1) := by decide +kernel
theorem dL_law_415 : decode cL_law 415 = .ok (.iconst 2, 1) := by decide +kernel
theorem dL_law_416 : decode cL_law 416 = .ok (.iadd, 1) := by decide +kernel
theorem dL_law_417 : decode cL_law 417 = .ok (.iaload, 1) := by decide +kernel
theorem dL_law_418 : decode cL_law 418 = .ok (.aload_n 0, 1) := by decide +kernel
theorem dL_law_419 : decode cL_law 419 = .ok (.iload_n 3, 1) := by decide +kernel
theorem dL_law_420 : decode cL_law 420 = .ok (.iconst 3, 1) := by decide +kernel
theorem dL_law_421 : decode cL_law 421 = .ok (.iadd, 1) := by decide +kernel
theorem dL_law_422 : decode cL_law 422 = .ok (.iaload, 1) := by decide +kernel
theorem dL_law_423 : decode cL_law 423 = .ok (.invokevirtual 43, 3) := by decide +kernel
theorem dL_law_426 : decode cL_law 426 = .ok (.aload_n 2, 1) := by decide +kernel
theorem dL_law_427 : decode cL_law 427 = .ok (.aload_n 0, 1) := by decide +kernel
theorem dL_law_428 : decode cL_law 428 = .ok (.iload_n 3, 1) := by decide +kernel
theorem dL_law_429 : decode cL_law 429 = .ok (.iconst 1, 1) := by decide +kernel
theorem dL_law_430 : decode cL_law 430 = .ok (.iadd, 1) := by decide +kernel
theorem dL_law_431 : decode cL_law 431 = .ok (.iaload, 1) := by decide +kernel
theorem dL_law_432 : decode cL_law 432 = .ok (.aload_n 0, 1) := by decide +kernel
theorem dL_law_433 : decode cL_law 433 = .ok (.iload_n 3, 1) := by decide +kernel
theorem dL_law_434 : decode cL_law 434 = .ok (.iconst 2, 1) := by decide +kernel
theorem dL_law_435 : decode cL_law 435 = .ok (.iadd, 1) := by decide +kernel
theorem dL_law_436 : decode cL_law 436 = .ok (.iaload, 1) := by decide +kernel
theorem dL_law_437 : decode cL_law 437 = .ok (.aload_n 0, 1) := by decide +kernel
theorem dL_law_438 : decode cL_law 438 = .ok (.iload_n 3, 1) := by decide +kernel
theorem dL_law_439 : decode cL_law 439 = .ok (.iconst 3, 1) := by decide +kernel
theorem dL_law_440 : decode cL_law 440 = .ok (.iadd, 1) := by decide +kernel
theorem dL_law_441 : decode cL_law 441 = .ok (.iaload, 1) := by decide +kernel
theorem dL_law_442 : decode cL_law 442 = .ok (.invokevirtual 47, 3) := by decide +kernel
theorem dL_law_445 : decode cL_law 445 = .ok (.if_icmp .eq 1093, 3) := by decide +kernel
theorem dL_law_448 : decode cL_law 448 = .ok (.iconst 0, 1) := by decide +kernel
theorem dL_law_449 : decode cL_law 449 = .ok (.ireturn, 1) := by decide +kernel
theorem dL_law_450 : decode cL_law 450 = .ok (.aload_n 1, 1) := by decide +kernel
theorem dL_law_451 : decode cL_law 451 = .ok (.aload_n 0, 1) := by decide +kernel
theorem dL_law_452 : decode cL_law 452 = .ok (.iload_n 3, 1) := by decide +kernel
theorem dL_law_453 : decode cL_law 453 = .ok (.iconst 1, 1) := by decide +kernel
theorem dL_law_454 : decode cL_law 454 = .ok (.iadd, 1) := by decide +kernel
theorem dL_law_455 : decode cL_law 455 = .ok (.iaload, 1) := by decide +kernel
theorem dL_law_456 : decode cL_law 456 = .ok (.aload_n 0, 1) := by decide +kernel
theorem dL_law_457 : decode cL_law 457 = .ok (.iload_n 3, 1) := by decide +kernel
theorem dL_law_458 : decode cL_law 458 = .ok (.iconst 2, 1) := by decide +kernel
theorem dL_law_459 : decode cL_law 459 = .ok (.iadd, 1) := by decide +kernel
theorem dL_law_460 : decode cL_law 460 = .ok (.iaload, 1) := by decide +kernel
theorem dL_law_461 : decode cL_law 461 = .ok (.invokevirtual 48, 3) := by decide +kernel
theorem dL_law_464 : decode cL_law 464 = .ok (.aload_n 2, 1) := by decide +kernel
theorem dL_law_465 : decode cL_law 465 = .ok (.aload_n 0, 1) := by decide +kernel
theorem dL_law_466 : decode cL_law 466 = .ok (.iload_n 3, 1) := by decide +kernel
theorem dL_law_467 : decode cL_law 467 = .ok (.iconst 1, 1) := by decide +kernel
theorem dL_law_468 : decode cL_law 468 = .ok (.iadd, 1) := by decide +kernel
theorem dL_law_469 : decode cL_law 469 = .ok (.iaload, 1) := by decide +kernel
theorem dL_law_470 : decode cL_law 470 = .ok (.aload_n 0, 1) := by decide +kernel
theorem dL_law_471 : decode cL_law 471 = .ok (.iload_n 3, 1) := by decide +kernel
theorem dL_law_472 : decode cL_law 472 = .ok (.iconst 2, 1) := by decide +kernel
theorem dL_law_473 : decode cL_law 473 = .ok (.iadd, 1) := by decide +kernel
theorem dL_law_474 : decode cL_law 474 = .ok (.iaload, 1) := by decide +kernel
theorem dL_law_475 : decode cL_law 475 = .ok (.invokevirtual 51, 3) := by decide +kernel
theorem dL_law_478 : decode cL_law 478 = .ok (.if_icmp .eq 1060, 3) := by decide +kernel
theorem dL_law_481 : decode cL_law 481 = .ok (.iconst 0, 1) := by decide +kernel
theorem dL_law_482 : decode cL_law 482 = .ok (.ireturn, 1) := by decide +kernel
theorem dL_law_483 : decode cL_law 483 = .ok (.aload_n 1, 1) := by decide +kernel
theorem dL_law_484 : decode cL_law 484 = .ok (.aload_n 0, 1) := by decide +kernel
theorem dL_law_485 : decode cL_law 485 = .ok (.iload_n 3, 1) := by decide +kernel
theorem dL_law_486 : decode cL_law 486 = .ok (.iconst 1, 1) := by decide +kernel
theorem dL_law_487 : decode cL_law 487 = .ok (.iadd, 1) := by decide +kernel
theorem dL_law_488 : decode cL_law 488 = .ok (.iaload, 1) := by decide +kernel
theorem dL_law_489 : decode cL_law 489 = .ok (.invokevirtual 52, 3) := by decide +kernel
theorem dL_law_492 : decode cL_law 492 = .ok (.aload_n 2, 1) := by decide +kernel
theorem dL_law_493 : decode cL_law 493 = .ok (.aload_n 0, 1) := by decide +kernel
theorem dL_law_494 : decode cL_law 494 = .ok (.iload_n 3, 1) := by decide +kernel
theorem dL_law_495 : decode cL_law 495 = .ok (.iconst 1, 1) := by decide +kernel
theorem dL_law_496 : decode cL_law 496 = .ok (.iadd, 1) := by decide +kernel
theorem dL_law_497 : decode cL_law 497 = .ok (.iaload, 1) := by decide +kernel
theorem dL_law_498 : decode cL_law 498 = .ok (.invokevirtual 55, 3) := by decide +kernel
theorem dL_law_501 : decode cL_law 501 = .ok (.if_icmp .eq 1037, 3) := by decide +kernel
theorem dL_law_504 : decode cL_law 504 = .ok (.iconst 0, 1) := by decide +kernel
theorem dL_law_505 : decode cL_law 505 = .ok (.ireturn, 1) := by decide +kernel
theorem dL_law_506 : decode cL_law 506 = .ok (.aload_n 1, 1) := by decide +kernel
theorem dL_law_507 : decode cL_law 507 = .ok (.aload_n 0, 1) := by decide +kernel
theorem dL_law_508 : decode cL_law 508 = .ok (.iload_n 3, 1) := by decide +kernel
theorem dL_law_509 : decode cL_law 509 = .ok (.iconst 1, 1) := by decide +kernel
theorem dL_law_510 : decode cL_law 510 = .ok (.iadd, 1) := by decide +kernel
theorem dL_law_511 : decode cL_law 511 = .ok (.iaload, 1) := by decide +kernel
theorem dL_law_512 : decode cL_law 512 = .ok (.invokevirtual 56, 3) := by decide +kernel
theorem dL_law_515 : decode cL_law 515 = .ok (.aload_n 2, 1) := by decide +kernel
theorem dL_law_516 : decode cL_law 516 = .ok (.aload_n 0, 1) := by decide +kernel
theorem dL_law_517 : decode cL_law 517 = .ok (.iload_n 3, 1) := by decide +kernel
theorem dL_law_518 : decode cL_law 518 = .ok (.iconst 1, 1) := by decide +kernel
theorem dL_law_519 : decode cL_law 519 = .ok (.iadd, 1) := by decide +kernel
theorem dL_law_520 : decode cL_law 520 = .ok (.iaload, 1) := by decide +kernel
theorem dL_law_521 : decode cL_law 521 = .ok (.invokevirtual 59, 3) := by decide +kernel
theorem dL_law_524 : decode cL_law 524 = .ok (.if_icmp .eq 1014, 3) := by decide +kernel
theorem dL_law_527 : decode cL_law 527 = .ok (.iconst 0, 1) := by decide +kernel
theorem dL_law_528 : decode cL_law 528 = .ok (.ireturn, 1) := by decide +kernel
theorem dL_law_529 : decode cL_law 529 = .ok (.aload_n 1, 1) := by decide +kernel
theorem dL_law_530 : decode cL_law 530 = .ok (.aload_n 0, 1) := by decide +kernel
theorem dL_law_531 : decode cL_law 531 = .ok (.iload_n 3, 1) := by decide +kernel
theorem dL_law_532 : decode cL_law 532 = .ok (.iconst 1, 1) := by decide +kernel
theorem dL_law_533 : decode cL_law 533 = .ok (.iadd, 1) := by decide +kernel
theorem dL_law_534 : decode cL_law 534 = .ok (.iaload, 1) := by decide +kernel
theorem dL_law_535 : decode cL_law 535 = .ok (.aload_n 0, 1) := by decide +kernel
theorem dL_law_536 : decode cL_law 536 = .ok (.iload_n 3, 1) := by decide +kernel
theorem dL_law_537 : decode cL_law 537 = .ok (.iconst 2, 1) := by decide +kernel
theorem dL_law_538 : decode cL_law 538 = .ok (.iadd, 1) := by decide +kernel
theorem dL_law_539 : decode cL_law 539 = .ok (.iaload, 1) := by decide +kernel
theorem dL_law_540 : decode cL_law 540 = .ok (.invokevirtual 60, 3) := by decide +kernel
theorem dL_law_543 : decode cL_law 543 = .ok (.aload_n 2, 1) := by decide +kernel
theorem dL_law_544 : decode cL_law 544 = .ok (.aload_n 0, 1) := by decide +kernel
theorem dL_law_545 : decode cL_law 545 = .ok (.iload_n 3, 1) := by decide +kernel
theorem dL_law_546 : decode cL_law 546 = .ok (.iconst 1, 1) := by decide +kernel
theorem dL_law_547 : decode cL_law 547 = .ok (.iadd, 1) := by decide +kernel
theorem dL_law_548 : decode cL_law 548 = .ok (.iaload, 1) := by decide +kernel
theorem dL_law_549 : decode cL_law 549 = .ok (.aload_n 0, 1) := by decide +kernel
theorem dL_law_550 : decode cL_law 550 = .ok (.iload_n 3, 1) := by decide +kernel
theorem dL_law_551 : decode cL_law 551 = .ok (.iconst 2, 1) := by decide +kernel
theorem dL_law_552 : decode cL_law 552 = .ok (.iadd, 1) := by decide +kernel
theorem dL_law_553 : decode cL_law 553 = .ok (.iaload, 1) := by decide +kernel
theorem dL_law_554 : decode cL_law 554 = .ok (.invokevirtual 63, 3) := by decide +kernel
theorem dL_law_557 : decode cL_law 557 = .ok (.if_icmp .eq 981, 3) := by decide +kernel
theorem dL_law_560 : decode cL_law 560 = .ok (.iconst 0, 1) := by decide +kernel
theorem dL_law_561 : decode cL_law 561 = .ok (.ireturn, 1) := by decide +kernel
theorem dL_law_562 : decode cL_law 562 = .ok (.aload_n 1, 1) := by decide +kernel
theorem dL_law_563 : decode cL_law 563 = .ok (.aload_n 0, 1) := by decide +kernel
theorem dL_law_564 : decode cL_law 564 = .ok (.iload_n 3, 1) := by decide +kernel
theorem dL_law_565 : decode cL_law 565 = .ok (.iconst 1, 1) := by decide +kernel
theorem dL_law_566 : decode cL_law 566 = .ok (.iadd, 1) := by decide +kernel
theorem dL_law_567 : decode cL_law 567 = .ok (.iaload, 1) := by decide +kernel
theorem dL_law_568 : decode cL_law 568 = .ok (.invokevirtual 64, 3) := by decide +kernel
theorem dL_law_571 : decode cL_law 571 = .ok (.aload_n 2, 1) := by decide +kernel
theorem dL_law_572 : decode cL_law 572 = .ok (.aload_n 0, 1) := by decide +kernel
theorem dL_law_573 : decode cL_law 573 = .ok (.iload_n 3, 1) := by decide +kernel
theorem dL_law_574 : decode cL_law 574 = .ok (.iconst 1, 1) := by decide +kernel
theorem dL_law_575 : decode cL_law 575 = .ok (.iadd, 1) := by decide +kernel
theorem dL_law_576 : decode cL_law 576 = .ok (.iaload, 1) := by decide +kernel
theorem dL_law_577 : decode cL_law 577 = .ok (.invokevirtual 67, 3) := by decide +kernel
theorem dL_law_580 : decode cL_law 580 = .ok (.if_icmp .eq 958, 3) := by decide +kernel
theorem dL_law_583 : decode cL_law 583 = .ok (.iconst 0, 1) := by decide +kernel
theorem dL_law_584 : decode cL_law 584 = .ok (.ireturn, 1) := by decide +kernel
theorem dL_law_585 : decode cL_law 585 = .ok (.aload_n 1, 1) := by decide +kernel
theorem dL_law_586 : decode cL_law 586 = .ok (.aload_n 0, 1) := by decide +kernel
theorem dL_law_587 : decode cL_law 587 = .ok (.iload_n 3, 1) := by decide +kernel
theorem dL_law_588 : decode cL_law 588 = .ok (.iconst 1, 1) := by decide +kernel
theorem dL_law_589 : decode cL_law 589 = .ok (.iadd, 1) := by decide +kernel
theorem dL_law_590 : decode cL_law 590 = .ok (.iaload, 1) := by decide +kernel
theorem dL_law_591 : decode cL_law 591 = .ok (.aload_n 0, 1) := by decide +kernel
theorem dL_law_592 : decode cL_law 592 = .ok (.iload_n 3, 1) := by decide +kernel
theorem dL_law_593 : decode cL_law 593 = .ok (.iconst 2, 1) := by decide +kernel
theorem dL_law_594 : decode cL_law 594 = .ok (.iadd, 1) := by decide +kernel
theorem dL_law_595 : decode cL_law 595 = .ok (.iaload, 1) := by decide +kernel
theorem dL_law_596 : decode cL_law 596 = .ok (.invokevirtual 68, 3) := by decide +kernel
theorem dL_law_599 : decode cL_law 599 = .ok (.aload_n 2, 1) := by decide +kernel
theorem dL_law_600 : decode cL_law 600 = .ok (.aload_n 0, 1) := by decide +kernel
theorem dL_law_601 : decode cL_law 601 = .ok (.iload_n 3, 1) := by decide +kernel
theorem dL_law_602 : decode cL_law 602 = .ok (.iconst 1, 1) := by decide +kernel
theorem dL_law_603 : decode cL_law 603 = .ok (.iadd, 1) := by decide +kernel
theorem dL_law_604 : decode cL_law 604 = .ok (.iaload, 1) := by decide +kernel
theorem dL_law_605 : decode cL_law 605 = .ok (.aload_n 0, 1) := by decide +kernel
theorem dL_law_606 : decode cL_law 606 = .ok (.iload_n 3, 1) := by decide +kernel
theorem dL_law_607 : decode cL_law 607 = .ok (.iconst 2, 1) := by decide +kernel
theorem dL_law_608 : decode cL_law 608 = .ok (.iadd, 1) := by decide +kernel
theorem dL_law_609 : decode cL_law 609 = .ok (.iaload, 1) := by decide +kernel
theorem dL_law_610 : decode cL_law 610 = .ok (.invokevirtual 71, 3) := by decide +kernel
theorem dL_law_613 : decode cL_law 613 = .ok (.if_icmp .eq 925, 3) := by decide +kernel
theorem dL_law_616 : decode cL_law 616 = .ok (.iconst 0, 1) := by decide +kernel
theorem dL_law_617 : decode cL_law 617 = .ok (.ireturn, 1) := by decide +kernel
theorem dL_law_618 : decode cL_law 618 = .ok (.aload_n 1, 1) := by decide +kernel
theorem dL_law_619 : decode cL_law 619 = .ok (.invokevirtual 72, 3) := by decide +kernel
theorem dL_law_622 : decode cL_law 622 = .ok (.aload_n 2, 1) := by decide +kernel
theorem dL_law_623 : decode cL_law 623 = .ok (.invokevirtual 76, 3) := by decide +kernel
theorem dL_law_626 : decode cL_law 626 = .ok (.if_icmp .eq 912, 3) := by decide +kernel
theorem dL_law_629 : decode cL_law 629 = .ok (.iconst 0, 1) := by decide +kernel
theorem dL_law_630 : decode cL_law 630 = .ok (.ireturn, 1) := by decide +kernel
theorem dL_law_631 : decode cL_law 631 = .ok (.aload_n 1, 1) := by decide +kernel
theorem dL_law_632 : decode cL_law 632 = .ok (.invokevirtual 77, 3) := by decide +kernel
theorem dL_law_635 : decode cL_law 635 = .ok (.aload_n 2, 1) := by decide +kernel
theorem dL_law_636 : decode cL_law 636 = .ok (.invokevirtual 80, 3) := by decide +kernel
theorem dL_law_639 : decode cL_law 639 = .ok (.if_icmp .eq 899, 3) := by decide +kernel
theorem dL_law_642 : decode cL_law 642 = .ok (.iconst 0, 1) := by decide +kernel
theorem dL_law_643 : decode cL_law 643 = .ok (.ireturn, 1) := by decide +kernel
theorem dL_law_644 : decode cL_law 644 = .ok (.aload_n 1, 1) := by decide +kernel
theorem dL_law_645 : decode cL_law 645 = .ok (.aload_n 0, 1) := by decide +kernel
theorem dL_law_646 : decode cL_law 646 = .ok (.iload_n 3, 1) := by decide +kernel
theorem dL_law_647 : decode cL_law 647 = .ok (.iconst 1, 1) := by decide +kernel
theorem dL_law_648 : decode cL_law 648 = .ok (.iadd, 1) := by decide +kernel
theorem dL_law_649 : decode cL_law 649 = .ok (.iaload, 1) := by decide +kernel
theorem dL_law_650 : decode cL_law 650 = .ok (.aload_n 0, 1) := by decide +kernel
theorem dL_law_651 : decode cL_law 651 = .ok (.iload_n 3, 1) := by decide +kernel
theorem dL_law_652 : decode cL_law 652 = .ok (.iconst 2, 1) := by decide +kernel
theorem dL_law_653 : decode cL_law 653 = .ok (.iadd, 1) := by decide +kernel
theorem dL_law_654 : decode cL_law 654 = .ok (.iaload, 1) := by decide +kernel
theorem dL_law_655 : decode cL_law 655 = .ok (.invokevirtual 81, 3) := by decide +kernel
theorem dL_law_658 : decode cL_law 658 = .ok (.aload_n 2, 1) := by decide +kernel
theorem dL_law_659 : decode cL_law 659 = .ok (.aload_n 0, 1) := by decide +kernel
theorem dL_law_660 : decode cL_law 660 = .ok (.iload_n 3, 1) := by decide +kernel
theorem dL_law_661 : decode cL_law 661 = .ok (.iconst 1, 1) := by decide +kernel
theorem dL_law_662 : decode cL_law 662 = .ok (.iadd, 1) := by decide +kernel
theorem dL_law_663 : decode cL_law 663 = .ok (.iaload, 1) := by decide +kernel
theorem dL_law_664 : decode cL_law 664 = .ok (.aload_n 0, 1) := by decide +kernel
theorem dL_law_665 : decode cL_law 665 = .ok (.iload_n 3, 1) := by decide +kernel
theorem dL_law_666 : decode cL_law 666 = .ok (.iconst 2, 1) := by decide +kernel
theorem dL_law_667 : decode cL_law 667 = .ok (.iadd, 1) := by decide +kernel
theorem dL_law_668 : decode cL_law 668 = .ok (.iaload, 1) := by decide +kernel
theorem dL_law_669 : decode cL_law 669 = .ok (.invokevirtual 84, 3) := by decide +kernel
theorem dL_law_672 : decode cL_law 672 = .ok (.if_icmp .eq 866, 3) := by decide +kernel
theorem dL_law_675 : decode cL_law 675 = .ok (.iconst 0, 1) := by decide +kernel
theorem dL_law_676 : decode cL_law 676 = .ok (.ireturn, 1) := by decide +kernel
theorem dL_law_677 : decode cL_law 677 = .ok (.aload_n 1, 1) := by decide +kernel
theorem dL_law_678 : decode cL_law 678 = .ok (.aload_n 0, 1) := by decide +kernel
theorem dL_law_679 : decode cL_law 679 = .ok (.iload_n 3, 1) := by decide +kernel
theorem dL_law_680 : decode cL_law 680 = .ok (.iconst 1, 1) := by decide +kernel
theorem dL_law_681 : decode cL_law 681 = .ok (.iadd, 1) := by decide +kernel
theorem dL_law_682 : decode cL_law 682 = .ok (.iaload, 1) := by decide +kernel
theorem dL_law_683 : decode cL_law 683 = .ok (.invokevirtual 85, 3) := by decide +kernel
theorem dL_law_686 : decode cL_law 686 = .ok (.aload_n 2, 1) := by decide +kernel
theorem dL_law_687 : decode cL_law 687 = .ok (.aload_n 0, 1) := by decide +kernel
theorem dL_law_688 : decode cL_law 688 = .ok (.iload_n 3, 1) := by decide +kernel
theorem dL_law_689 : decode cL_law 689 = .ok (.iconst 1, 1) := by decide +kernel
theorem dL_law_690 : decode cL_law 690 = .ok (.iadd, 1) := by decide +kernel
theorem dL_law_691 : decode cL_law 691 = .ok (.iaload, 1) := by decide +kernel
theorem dL_law_692 : decode cL_law 692 = .ok (.invokevirtual 88, 3) := by decide +kernel
theorem dL_law_695 : decode cL_law 695 = .ok (.if_icmp .eq 843, 3) := by decide +kernel
theorem dL_law_698 : decode cL_law 698 = .ok (.iconst 0, 1) := by decide +kernel
theorem dL_law_699 : decode cL_law 699 = .ok (.ireturn, 1) := by decide +kernel
theorem dL_law_700 : decode cL_law 700 = .ok (.aload_n 1, 1) := by decide +kernel
theorem dL_law_701 : decode cL_law 701 = .ok (.aload_n 0, 1) := by decide +kernel
theorem dL_law_702 : decode cL_law 702 = .ok (.iload_n 3, 1) := by decide +kernel
theorem dL_law_703 : decode cL_law 703 = .ok (.iconst 1, 1) := by decide +kernel
theorem dL_law_704 : decode cL_law 704 = .ok (.iadd, 1) := by decide +kernel
theorem dL_law_705 : decode cL_law 705 = .ok (.iaload, 1) := by decide +kernel
theorem dL_law_706 : decode cL_law 706 = .ok (.aload_n 0, 1) := by decide +kernel
theorem dL_law_707 : decode cL_law 707 = .ok (.iload_n 3, 1) := by decide +kernel
theorem dL_law_708 : decode cL_law 708 = .ok (.iconst 2, 1) := by decide +kernel
theorem dL_law_709 : decode cL_law 709 = .ok (.iadd, 1) := by decide +kernel
theorem dL_law_710 : decode cL_law 710 = .ok (.iaload, 1) := by decide +kernel
theorem dL_law_711 : decode cL_law 711 = .ok (.aload_n 0, 1) := by decide +kernel
theorem dL_law_712 : decode cL_law 712 = .ok (.iload_n 3, 1) := by decide +kernel
theorem dL_law_713 : decode cL_law 713 = .ok (.iconst 3, 1) := by decide +kernel
theorem dL_law_714 : decode cL_law 714 = .ok (.iadd, 1) := by decide +kernel
theorem dL_law_715 : decode cL_law 715 = .ok (.iaload, 1) := by decide +kernel
theorem dL_law_716 : decode cL_law 716 = .ok (.aload_n 0, 1) := by decide +kernel
theorem dL_law_717 : decode cL_law 717 = .ok (.iload_n 3, 1) := by decide +kernel
theorem dL_law_718 : decode cL_law 718 = .ok (.iconst 4, 1) := by decide +kernel
theorem dL_law_719 : decode cL_law 719 = .ok (.iadd, 1) := by decide +kernel
theorem dL_law_720 : decode cL_law 720 = .ok (.iaload, 1) := by decide +kernel
theorem dL_law_721 : decode cL_law 721 = .ok (.invokevirtual 89, 3) := by decide +kernel
theorem dL_law_724 : decode cL_law 724 = .ok (.aload_n 2, 1) := by decide +kernel
theorem dL_law_725 : decode cL_law 725 = .ok (.aload_n 0, 1) := by decide +kernel
theorem dL_law_726 : decode cL_law 726 = .ok (.iload_n 3, 1) := by decide +kernel
theorem dL_law_727 : decode cL_law 727 = .ok (.iconst 1, 1) := by decide +kernel
theorem dL_law_728 : decode cL_law 728 = .ok (.iadd, 1) := by decide +kernel
theorem dL_law_729 : decode cL_law 729 = .ok (.iaload, 1) := by decide +kernel
theorem dL_law_730 : decode cL_law 730 = .ok (.aload_n 0, 1) := by decide +kernel
theorem dL_law_731 : decode cL_law 731 = .ok (.iload_n 3, 1) := by decide +kernel
theorem dL_law_732 : decode cL_law 732 = .ok (.iconst 2, 1) := by decide +kernel
theorem dL_law_733 : decode cL_law 733 = .ok (.iadd, 1) := by decide +kernel
theorem dL_law_734 : decode cL_law 734 = .ok (.iaload, 1) := by decide +kernel
theorem dL_law_735 : decode cL_law 735 = .ok (.aload_n 0, 1) := by decide +kernel
theorem dL_law_736 : decode cL_law 736 = .ok (.iload_n 3, 1) := by decide +kernel
theorem dL_law_737 : decode cL_law 737 = .ok (.iconst 3, 1) := by decide +kernel
theorem dL_law_738 : decode cL_law 738 = .ok (.iadd, 1) := by decide +kernel
theorem dL_law_739 : decode cL_law 739 = .ok (.iaload, 1) := by decide +kernel
theorem dL_law_740 : decode cL_law 740 = .ok (.aload_n 0, 1) := by decide +kernel
theorem dL_law_741 : decode cL_law 741 = .ok (.iload_n 3, 1) := by decide +kernel
theorem dL_law_742 : decode cL_law 742 = .ok (.iconst 4, 1) := by decide +kernel
theorem dL_law_743 : decode cL_law 743 = .ok (.iadd, 1) := by decide +kernel
theorem dL_law_744 : decode cL_law 744 = .ok (.iaload, 1) := by decide +kernel
theorem dL_law_745 : decode cL_law 745 = .ok (.invokevirtual 93, 3) := by decide +kernel
theorem dL_law_748 : decode cL_law 748 = .ok (.if_icmp .eq 790, 3) := by decide +kernel
theorem dL_law_751 : decode cL_law 751 = .ok (.iconst 0, 1) := by decide +kernel
theorem dL_law_752 : decode cL_law 752 = .ok (.ireturn, 1) := by decide +kernel
theorem dL_law_753 : decode cL_law 753 = .ok (.aload_n 1, 1) := by decide +kernel
theorem dL_law_754 : decode cL_law 754 = .ok (.aload_n 0, 1) := by decide +kernel
theorem dL_law_755 : decode cL_law 755 = .ok (.iload_n 3, 1) := by decide +kernel
theorem dL_law_756 : decode cL_law 756 = .ok (.iconst 1, 1) := by decide +kernel
theorem dL_law_757 : decode cL_law 757 = .ok (.iadd, 1) := by decide +kernel
theorem dL_law_758 : decode cL_law 758 = .ok (.iaload, 1) := by decide +kernel
theorem dL_law_759 : decode cL_law 759 = .ok (.aload_n 0, 1) := by decide +kernel
theorem dL_law_760 : decode cL_law 760 = .ok (.iload_n 3, 1) := by decide +kernel
theorem dL_law_761 : decode cL_law 761 = .ok (.iconst 2, 1) := by decide +kernel
theorem dL_law_762 : decode cL_law 762 = .ok (.iadd, 1) := by decide +kernel
theorem dL_law_763 : decode cL_law 763 = .ok (.iaload, 1) := by decide +kernel
theorem dL_law_764 : decode cL_law 764 = .ok (.aload_n 0, 1) := by decide +kernel
theorem dL_law_765 : decode cL_law 765 = .ok (.iload_n 3, 1) := by decide +kernel
theorem dL_law_766 : decode cL_law 766 = .ok (.iconst 3, 1) := by decide +kernel
theorem dL_law_767 : decode cL_law 767 = .ok (.iadd, 1) := by decide +kernel
theorem dL_law_768 : decode cL_law 768 = .ok (.iaload, 1) := by decide +kernel
theorem dL_law_769 : decode cL_law 769 = .ok (.aload_n 0, 1) := by decide +kernel
theorem dL_law_770 : decode cL_law 770 = .ok (.iload_n 3, 1) := by decide +kernel
theorem dL_law_771 : decode cL_law 771 = .ok (.iconst 4, 1) := by decide +kernel
theorem dL_law_772 : decode cL_law 772 = .ok (.iadd, 1) := by decide +kernel
theorem dL_law_773 : decode cL_law 773 = .ok (.iaload, 1) := by decide +kernel
theorem dL_law_774 : decode cL_law 774 = .ok (.invokevirtual 94, 3) := by decide +kernel
theorem dL_law_777 : decode cL_law 777 = .ok (.aload_n 2, 1) := by decide +kernel
theorem dL_law_778 : decode cL_law 778 = .ok (.aload_n 0, 1) := by decide +kernel
theorem dL_law_779 : decode cL_law 779 = .ok (.iload_n 3, 1) := by decide +kernel
theorem dL_law_780 : decode cL_law 780 = .ok (.iconst 1, 1) := by decide +kernel
theorem dL_law_781 : decode cL_law 781 = .ok (.iadd, 1) := by decide +kernel
theorem dL_law_782 : decode cL_law 782 = .ok (.iaload, 1) := by decide +kernel
theorem dL_law_783 : decode cL_law 783 = .ok (.aload_n 0, 1) := by decide +kernel
theorem dL_law_784 : decode cL_law 784 = .ok (.iload_n 3, 1) := by decide +kernel
theorem dL_law_785 : decode cL_law 785 = .ok (.iconst 2, 1) := by decide +kernel
theorem dL_law_786 : decode cL_law 786 = .ok (.iadd, 1) := by decide +kernel
theorem dL_law_787 : decode cL_law 787 = .ok (.iaload, 1) := by decide +kernel
theorem dL_law_788 : decode cL_law 788 = .ok (.aload_n 0, 1) := by decide +kernel
theorem dL_law_789 : decode cL_law 789 = .ok (.iload_n 3, 1) := by decide +kernel
theorem dL_law_790 : decode cL_law 790 = .ok (.iconst 3, 1) := by decide +kernel
theorem dL_law_791 : decode cL_law 791 = .ok (.iadd, 1) := by decide +kernel
theorem dL_law_792 : decode cL_law 792 = .ok (.iaload, 1) := by decide +kernel
theorem dL_law_793 : decode cL_law 793 = .ok (.aload_n 0, 1) := by decide +kernel
theorem dL_law_794 : decode cL_law 794 = .ok (.iload_n 3, 1) := by decide +kernel
theorem dL_law_795 : decode cL_law 795 = .ok (.iconst 4, 1) := by decide +kernel
theorem dL_law_796 : decode cL_law 796 = .ok (.iadd, 1) := by decide +kernel
theorem dL_law_797 : decode cL_law 797 = .ok (.iaload, 1) := by decide +kernel
theorem dL_law_798 : decode cL_law 798 = .ok (.invokevirtual 97, 3) := by decide +kernel
theorem dL_law_801 : decode cL_law 801 = .ok (.if_icmp .eq 737, 3) := by decide +kernel
theorem dL_law_804 : decode cL_law 804 = .ok (.iconst 0, 1) := by decide +kernel
theorem dL_law_805 : decode cL_law 805 = .ok (.ireturn, 1) := by decide +kernel
theorem dL_law_806 : decode cL_law 806 = .ok (.aload_n 1, 1) := by decide +kernel
theorem dL_law_807 : decode cL_law 807 = .ok (.aload_n 0, 1) := by decide +kernel
theorem dL_law_808 : decode cL_law 808 = .ok (.iload_n 3, 1) := by decide +kernel
theorem dL_law_809 : decode cL_law 809 = .ok (.iconst 1, 1) := by decide +kernel
theorem dL_law_810 : decode cL_law 810 = .ok (.iadd, 1) := by decide +kernel
theorem dL_law_811 : decode cL_law 811 = .ok (.iaload, 1) := by decide +kernel
theorem dL_law_812 : decode cL_law 812 = .ok (.aload_n 0, 1) := by decide +kernel
theorem dL_law_813 : decode cL_law 813 = .ok (.iload_n 3, 1) := by decide +kernel
theorem dL_law_814 : decode cL_law 814 = .ok (.iconst 2, 1) := by decide +kernel
theorem dL_law_815 : decode cL_law 815 = .ok (.iadd, 1) := by decide +kernel
theorem dL_law_816 : decode cL_law 816 = .ok (.iaload, 1) := by decide +kernel
theorem dL_law_817 : decode cL_law 817 = .ok (.aload_n 0, 1) := by decide +kernel
theorem dL_law_818 : decode cL_law 818 = .ok (.iload_n 3, 1) := by decide +kernel
theorem dL_law_819 : decode cL_law 819 = .ok (.iconst 3, 1) := by decide +kernel
theorem dL_law_820 : decode cL_law 820 = .ok (.iadd, 1) := by decide +kernel
theorem dL_law_821 : decode cL_law 821 = .ok (.iaload, 1) := by decide +kernel
theorem dL_law_822 : decode cL_law 822 = .ok (.ifCond .eq 7, 3) := by decide +kernel
theorem dL_law_825 : decode cL_law 825 = .ok (.iconst 1, 1) := by decide +kernel
theorem dL_law_826 : decode cL_law 826 = .ok (.goto 4, 3) := by decide +kernel
theorem dL_law_829 : decode cL_law 829 = .ok (.iconst 0, 1) := by decide +kernel
theorem dL_law_830 : decode cL_law 830 = .ok (.invokevirtual 98, 3) := by decide +kernel
theorem dL_law_833 : decode cL_law 833 = .ok (.aload_n 2, 1) := by decide +kernel
theorem dL_law_834 : decode cL_law 834 = .ok (.aload_n 0, 1) := by decide +kernel
theorem dL_law_835 : decode cL_law 835 = .ok (.iload_n 3, 1) := by decide +kernel
theorem dL_law_836 : decode cL_law 836 = .ok (.iconst 1, 1) := by decide +kernel
theorem dL_law_837 : decode cL_law 837 = .ok (.iadd, 1) := by decide +kernel
theorem dL_law_838 : decode cL_law 838 = .ok (.iaload, 1) := by decide +kernel
theorem dL_law_839 : decode cL_law 839 = .ok (.aload_n 0, 1) := by decide +kernel
theorem dL_law_840 : decode cL_law 840 = .ok (.iload_n 3, 1) := by decide +kernel
theorem dL_law_841 : decode cL_law 841 = .ok (.iconst 2, 1) := by decide +kernel
theorem dL_law_842 : decode cL_law 842 = .ok (.iadd, 1) := by decide +kernel
theorem dL_law_843 : decode cL_law 843 = .ok (.iaload, 1) := by decide +kernel
theorem dL_law_844 : decode cL_law 844 = .ok (.aload_n 0, 1) := by decide +kernel
theorem dL_law_845 : decode cL_law 845 = .ok (.iload_n 3, 1) := by decide +kernel
theorem dL_law_846 : decode cL_law 846 = .ok (.iconst 3, 1) := by decide +kernel
theorem dL_law_847 : decode cL_law 847 = .ok (.iadd, 1) := by decide +kernel
theorem dL_law_848 : decode cL_law 848 = .ok (.iaload, 1) := by decide +kernel
theorem dL_law_849 : decode cL_law 849 = .ok (.ifCond .eq 7, 3) := by decide +kernel
theorem dL_law_852 : decode cL_law 852 = .ok (.iconst 1, 1) := by decide +kernel
theorem dL_law_853 : decode cL_law 853 = .ok (.goto 4, 3) := by decide +kernel
theorem dL_law_856 : decode cL_law 856 = .ok (.iconst 0, 1) := by decide +kernel
theorem dL_law_857 : decode cL_law 857 = .ok (.invokevirtual 102, 3) := by decide +kernel
theorem dL_law_860 : decode cL_law 860 = .ok (.if_icmp .eq 678, 3) := by decide +kernel
theorem dL_law_863 : decode cL_law 863 = .ok (.iconst 0, 1) := by decide +kernel
theorem dL_law_864 : decode cL_law 864 = .ok (.ireturn, 1) := by decide +kernel
theorem dL_law_865 : decode cL_law 865 = .ok (.aload_n 1, 1) := by decide +kernel
theorem dL_law_866 : decode cL_law 866 = .ok (.aload_n 0, 1) := by decide +kernel
theorem dL_law_867 : decode cL_law 867 = .ok (.iload_n 3, 1) := by decide +kernel
theorem dL_law_868 : decode cL_law 868 = .ok (.iconst 1, 1) := by decide +kernel
theorem dL_law_869 : decode cL_law 869 = .ok (.iadd, 1) := by decide +kernel
theorem dL_law_870 : decode cL_law 870 = .ok (.iaload, 1) := by decide +kernel
theorem dL_law_871 : decode cL_law 871 = .ok (.aload_n 0, 1) := by decide +kernel
theorem dL_law_872 : decode cL_law 872 = .ok (.iload_n 3, 1) := by decide +kernel
theorem dL_law_873 : decode cL_law 873 = .ok (.iconst 2, 1) := by decide +kernel
theorem dL_law_874 : decode cL_law 874 = .ok (.iadd, 1) := by decide +kernel
theorem dL_law_875 : decode cL_law 875 = .ok (.iaload, 1) := by decide +kernel
theorem dL_law_876 : decode cL_law 876 = .ok (.aload_n 0, 1) := by decide +kernel
theorem dL_law_877 : decode cL_law 877 = .ok (.iload_n 3, 1) := by decide +kernel
theorem dL_law_878 : decode cL_law 878 = .ok (.iconst 3, 1) := by decide +kernel
theorem dL_law_879 : decode cL_law 879 = .ok (.iadd, 1) := by decide +kernel
theorem dL_law_880 : decode cL_law 880 = .ok (.iaload, 1) := by decide +kernel
theorem dL_law_881 : decode cL_law 881 = .ok (.invokevirtual 103, 3) := by decide +kernel
theorem dL_law_884 : decode cL_law 884 = .ok (.aload_n 2, 1) := by decide +kernel
theorem dL_law_885 : decode cL_law 885 = .ok (.aload_n 0, 1) := by decide +kernel
theorem dL_law_886 : decode cL_law 886 = .ok (.iload_n 3, 1) := by decide +kernel
theorem dL_law_887 : decode cL_law 887 = .ok (.iconst 1, 1) := by decide +kernel
theorem dL_law_888 : decode cL_law 888 = .ok (.iadd, 1) := by decide +kernel
theorem dL_law_889 : decode cL_law 889 = .ok (.iaload, 1) := by decide +kernel
theorem dL_law_890 : decode cL_law 890 = .ok (.aload_n 0, 1) := by decide +kernel
theorem dL_law_891 : decode cL_law 891 = .ok (.iload_n 3, 1) := by decide +kernel
theorem dL_law_892 : decode cL_law 892 = .ok (.iconst 2, 1) := by decide +kernel
theorem dL_law_893 : decode cL_law 893 = .ok (.iadd, 1) := by decide +kernel
theorem dL_law_894 : decode cL_law 894 = .ok (.iaload, 1) := by decide +kernel
theorem dL_law_895 : decode cL_law 895 = .ok (.aload_n 0, 1) := by decide +kernel
theorem dL_law_896 : decode cL_law 896 = .ok (.iload_n 3, 1) := by decide +kernel
theorem dL_law_897 : decode cL_law 897 = .ok (.iconst 3, 1) := by decide +kernel
theorem dL_law_898 : decode cL_law 898 = .ok (.iadd, 1) := by decide +kernel
theorem dL_law_899 : decode cL_law 899 = .ok (.iaload, 1) := by decide +kernel
theorem dL_law_900 : decode cL_law 900 = .ok (.invokevirtual 106, 3) := by decide +kernel
theorem dL_law_903 : decode cL_law 903 = .ok (.if_icmp .eq 635, 3) := by decide +kernel
theorem dL_law_906 : decode cL_law 906 = .ok (.iconst 0, 1) := by decide +kernel
theorem dL_law_907 : decode cL_law 907 = .ok (.ireturn, 1) := by decide +kernel
theorem dL_law_908 : decode cL_law 908 = .ok (.aload_n 1, 1) := by decide +kernel
theorem dL_law_909 : decode cL_law 909 = .ok (.aload_n 0, 1) := by decide +kernel
theorem dL_law_910 : decode cL_law 910 = .ok (.iload_n 3, 1) := by decide +kernel
theorem dL_law_911 : decode cL_law 911 = .ok (.iconst 1, 1) := by decide +kernel
theorem dL_law_912 : decode cL_law 912 = .ok (.iadd, 1) := by decide +kernel
theorem dL_law_913 : decode cL_law 913 = .ok (.iaload, 1) := by decide +kernel
theorem dL_law_914 : decode cL_law 914 = .ok (.aload_n 0, 1) := by decide +kernel
theorem dL_law_915 : decode cL_law 915 = .ok (.iload_n 3, 1) := by decide +kernel
theorem dL_law_916 : decode cL_law 916 = .ok (.iconst 2, 1) := by decide +kernel
theorem dL_law_917 : decode cL_law 917 = .ok (.iadd, 1) := by decide +kernel
theorem dL_law_918 : decode cL_law 918 = .ok (.iaload, 1) := by decide +kernel
theorem dL_law_919 : decode cL_law 919 = .ok (.invokevirtual 107, 3) := by decide +kernel
theorem dL_law_922 : decode cL_law 922 = .ok (.aload_n 2, 1) := by decide +kernel
theorem dL_law_923 : decode cL_law 923 = .ok (.aload_n 0, 1) := by decide +kernel
theorem dL_law_924 : decode cL_law 924 = .ok (.iload_n 3, 1) := by decide +kernel
theorem dL_law_925 : decode cL_law 925 = .ok (.iconst 1, 1) := by decide +kernel
theorem dL_law_926 : decode cL_law 926 = .ok (.iadd, 1) := by decide +kernel
theorem dL_law_927 : decode cL_law 927 = .ok (.iaload, 1) := by decide +kernel
theorem dL_law_928 : decode cL_law 928 = .ok (.aload_n 0, 1) := by decide +kernel
theorem dL_law_929 : decode cL_law 929 = .ok (.iload_n 3, 1) := by decide +kernel
theorem dL_law_930 : decode cL_law 930 = .ok (.iconst 2, 1) := by decide +kernel
theorem dL_law_931 : decode cL_law 931 = .ok (.iadd, 1) := by decide +kernel
theorem dL_law_932 : decode cL_law 932 = .ok (.iaload, 1) := by decide +kernel
theorem dL_law_933 : decode cL_law 933 = .ok (.invokevirtual 110, 3) := by decide +kernel
theorem dL_law_936 : decode cL_law 936 = .ok (.if_icmp .eq 602, 3) := by decide +kernel
theorem dL_law_939 : decode cL_law 939 = .ok (.iconst 0, 1) := by decide +kernel
theorem dL_law_940 : decode cL_law 940 = .ok (.ireturn, 1) := by decide +kernel
theorem dL_law_941 : decode cL_law 941 = .ok (.aload_n 1, 1) := by decide +kernel
theorem dL_law_942 : decode cL_law 942 = .ok (.aload_n 0, 1) := by decide +kernel
theorem dL_law_943 : decode cL_law 943 = .ok (.iload_n 3, 1) := by decide +kernel
theorem dL_law_944 : decode cL_law 944 = .ok (.iconst 1, 1) := by decide +kernel
theorem dL_law_945 : decode cL_law 945 = .ok (.iadd, 1) := by decide +kernel
theorem dL_law_946 : decode cL_law 946 = .ok (.iaload, 1) := by decide +kernel
theorem dL_law_947 : decode cL_law 947 = .ok (.aload_n 0, 1) := by decide +kernel
theorem dL_law_948 : decode cL_law 948 = .ok (.iload_n 3, 1) := by decide +kernel
theorem dL_law_949 : decode cL_law 949 = .ok (.iconst 2, 1) := by decide +kernel
theorem dL_law_950 : decode cL_law 950 = .ok (.iadd, 1) := by decide +kernel
theorem dL_law_951 : decode cL_law 951 = .ok (.iaload, 1) := by decide +kernel
theorem dL_law_952 : decode cL_law 952 = .ok (.aload_n 0, 1) := by decide +kernel
theorem dL_law_953 : decode cL_law 953 = .ok (.iload_n 3, 1) := by decide +kernel
theorem dL_law_954 : decode cL_law 954 = .ok (.iconst 3, 1) := by decide +kernel
theorem dL_law_955 : decode cL_law 955 = .ok (.iadd, 1) := by decide +kernel
theorem dL_law_956 : decode cL_law 956 = .ok (.iaload, 1) := by decide +kernel
theorem dL_law_957 : decode cL_law 957 = .ok (.invokevirtual 111, 3) := by decide +kernel
theorem dL_law_960 : decode cL_law 960 = .ok (.aload_n 2, 1) := by decide +kernel
theorem dL_law_961 : decode cL_law 961 = .ok (.aload_n 0, 1) := by decide +kernel
theorem dL_law_962 : decode cL_law 962 = .ok (.iload_n 3, 1) := by decide +kernel
theorem dL_law_963 : decode cL_law 963 = .ok (.iconst 1, 1) := by decide +kernel
theorem dL_law_964 : decode cL_law 964 = .ok (.iadd, 1) := by decide +kernel
theorem dL_law_965 : decode cL_law 965 = .ok (.iaload, 1) := by decide +kernel
theorem dL_law_966 : decode cL_law 966 = .ok (.aload_n 0, 1) := by decide +kernel
theorem dL_law_967 : decode cL_law 967 = .ok (.iload_n 3, 1) := by decide +kernel
theorem dL_law_968 : decode cL_law 968 = .ok (.iconst 2, 1) := by decide +kernel
theorem dL_law_969 : decode cL_law 969 = .ok (.iadd, 1) := by decide +kernel
theorem dL_law_970 : decode cL_law 970 = .ok (.iaload, 1) := by decide +kernel
theorem dL_law_971 : decode cL_law 971 = .ok (.aload_n 0, 1) := by decide +kernel
theorem dL_law_972 : decode cL_law 972 = .ok (.iload_n 3, 1) := by decide +kernel
theorem dL_law_973 : decode cL_law 973 = .ok (.iconst 3, 1) := by decide +kernel
theorem dL_law_974 : decode cL_law 974 = .ok (.iadd, 1) := by decide +kernel
theorem dL_law_975 : decode cL_law 975 = .ok (.iaload, 1) := by decide +kernel
theorem dL_law_976 : decode cL_law 976 = .ok (.invokevirtual 114, 3) := by decide +kernel
theorem dL_law_979 : decode cL_law 979 = .ok (.if_icmp .eq 559, 3) := by decide +kernel
theorem dL_law_982 : decode cL_law 982 = .ok (.iconst 0, 1) := by decide +kernel
theorem dL_law_983 : decode cL_law 983 = .ok (.ireturn, 1) := by decide +kernel
theorem dL_law_984 : decode cL_law 984 = .ok (.aload_n 1, 1) := by decide +kernel
theorem dL_law_985 : decode cL_law 985 = .ok (.aload_n 0, 1) := by decide +kernel
theorem dL_law_986 : decode cL_law 986 = .ok (.iload_n 3, 1) := by decide +kernel
theorem dL_law_987 : decode cL_law 987 = .ok (.iconst 1, 1) := by decide +kernel
theorem dL_law_988 : decode cL_law 988 = .ok (.iadd, 1) := by decide +kernel
theorem dL_law_989 : decode cL_law 989 = .ok (.iaload, 1) := by decide +kernel
theorem dL_law_990 : decode cL_law 990 = .ok (.aload_n 0, 1) := by decide +kernel
theorem dL_law_991 : decode cL_law 991 = .ok (.iload_n 3, 1) := by decide +kernel
theorem dL_law_992 : decode cL_law 992 = .ok (.iconst 2, 1) := by decide +kernel
theorem dL_law_993 : decode cL_law 993 = .ok (.iadd, 1) := by decide +kernel
theorem dL_law_994 : decode cL_law 994 = .ok (.iaload, 1) := by decide +kernel
theorem dL_law_995 : decode cL_law 995 = .ok (.aload_n 0, 1) := by decide +kernel
theorem dL_law_996 : decode cL_law 996 = .ok (.iload_n 3, 1) := by decide +kernel
theorem dL_law_997 : decode cL_law 997 = .ok (.iconst 3, 1) := by decide +kernel
theorem dL_law_998 : decode cL_law 998 = .ok (.iadd, 1) := by decide +kernel
theorem dL_law_999 : decode cL_law 999 = .ok (.iaload, 1) := by decide +kernel
theorem dL_law_1000 : decode cL_law 1000 = .ok (.aload_n 0, 1) := by decide +kernel
theorem dL_law_1001 : decode cL_law 1001 = .ok (.iload_n 3, 1) := by decide +kernel
theorem dL_law_1002 : decode cL_law 1002 = .ok (.iconst 4, 1) := by decide +kernel
theorem dL_law_1003 : decode cL_law 1003 = .ok (.iadd, 1) := by decide +kernel
theorem dL_law_1004 : decode cL_law 1004 = .ok (.iaload, 1) := by decide +kernel
theorem dL_law_1005 : decode cL_law 1005 = .ok (.invokevirtual 115, 3) := by decide +kernel
theorem dL_law_1008 : decode cL_law 1008 = .ok (.aload_n 2, 1) := by decide +kernel
theorem dL_law_1009 : decode cL_law 1009 = .ok (.aload_n 0, 1) := by decide +kernel
theorem dL_law_1010 : decode cL_law 1010 = .ok (.iload_n 3, 1) := by decide +kernel
theorem dL_law_1011 : decode cL_law 1011 = .ok (.iconst 1, 1) := by decide +kernel
theorem dL_law_1012 : decode cL_law 1012 = .ok (.iadd, 1) := by decide +kernel
theorem dL_law_1013 : decode cL_law 1013 = .ok (.iaload, 1) := by decide +kernel
theorem dL_law_1014 : decode cL_law 1014 = .ok (.aload_n 0, 1) := by decide +kernel
theorem dL_law_1015 : decode cL_law 1015 = .ok (.iload_n 3, 1) := by decide +kernel
theorem dL_law_1016 : decode cL_law 1016 = .ok (.iconst 2, 1) := by decide +kernel
theorem dL_law_1017 : decode cL_law 1017 = .ok (.iadd, 1) := by decide +kernel
theorem dL_law_1018 : decode cL_law 1018 = .ok (.iaload, 1) := by decide +kernel
theorem dL_law_1019 : decode cL_law 1019 = .ok (.aload_n 0, 1) := by decide +kernel
theorem dL_law_1020 : decode cL_law 1020 = .ok (.iload_n 3, 1) := by decide +kernel
theorem dL_law_1021 : decode cL_law 1021 = .ok (.iconst 3, 1) := by decide +kernel
theorem dL_law_1022 : decode cL_law 1022 = .ok (.iadd, 1) := by decide +kernel
theorem dL_law_1023 : decode cL_law 1023 = .ok (.iaload, 1) := by decide +kernel
theorem dL_law_1024 : decode cL_law 1024 = .ok (.aload_n 0, 1) := by decide +kernel
theorem dL_law_1025 : decode cL_law 1025 = .ok (.iload_n 3, 1) := by decide +kernel
theorem dL_law_1026 : decode cL_law 1026 = .ok (.iconst 4, 1) := by decide +kernel
theorem dL_law_1027 : decode cL_law 1027 = .ok (.iadd, 1) := by decide +kernel
theorem dL_law_1028 : decode cL_law 1028 = .ok (.iaload, 1) := by decide +kernel
theorem dL_law_1029 : decode cL_law 1029 = .ok (.invokevirtual 118, 3) := by decide +kernel
theorem dL_law_1032 : decode cL_law 1032 = .ok (.if_icmp .eq 506, 3) := by decide +kernel
theorem dL_law_1035 : decode cL_law 1035 = .ok (.iconst 0, 1) := by decide +kernel
theorem dL_law_1036 : decode cL_law 1036 = .ok (.ireturn, 1) := by decide +kernel
theorem dL_law_1037 : decode cL_law 1037 = .ok (.aload_n 1, 1) := by decide +kernel
theorem dL_law_1038 : decode cL_law 1038 = .ok (.aload_n 0, 1) := by decide +kernel
theorem dL_law_1039 : decode cL_law 1039 = .ok (.iload_n 3, 1) := by decide +kernel
theorem dL_law_1040 : decode cL_law 1040 = .ok (.iconst 1, 1) := by decide +kernel
theorem dL_law_1041 : decode cL_law 1041 = .ok (.iadd, 1) := by decide +kernel
theorem dL_law_1042 : decode cL_law 1042 = .ok (.iaload, 1) := by decide +kernel
theorem dL_law_1043 : decode cL_law 1043 = .ok (.aload_n 0, 1) := by decide +kernel
theorem dL_law_1044 : decode cL_law 1044 = .ok (.iload_n 3, 1) := by decide +kernel
theorem dL_law_1045 : decode cL_law 1045 = .ok (.iconst 2, 1) := by decide +kernel
theorem dL_law_1046 : decode cL_law 1046 = .ok (.iadd, 1) := by decide +kernel
theorem dL_law_1047 : decode cL_law 1047 = .ok (.iaload, 1) := by decide +kernel
theorem dL_law_1048 : decode cL_law 1048 = .ok (.aload_n 0, 1) := by decide +kernel
theorem dL_law_1049 : decode cL_law 1049 = .ok (.iload_n 3, 1) := by decide +kernel
theorem dL_law_1050 : decode cL_law 1050 = .ok (.iconst 3, 1) := by decide +kernel
theorem dL_law_1051 : decode cL_law 1051 = .ok (.iadd, 1) := by decide +kernel
theorem dL_law_1052 : decode cL_law 1052 = .ok (.iaload, 1) := by decide +kernel
theorem dL_law_1053 : decode cL_law 1053 = .ok (.invokevirtual 119, 3) := by decide +kernel
theorem dL_law_1056 : decode cL_law 1056 = .ok (.aload_n 2, 1) := by decide +kernel
theorem dL_law_1057 : decode cL_law 1057 = .ok (.aload_n 0, 1) := by decide +kernel
theorem dL_law_1058 : decode cL_law 1058 = .ok (.iload_n 3, 1) := by decide +kernel
theorem dL_law_1059 : decode cL_law 1059 = .ok (.iconst 1, 1) := by decide +kernel
theorem dL_law_1060 : decode cL_law 1060 = .ok (.iadd, 1) := by decide +kernel
theorem dL_law_1061 : decode cL_law 1061 = .ok (.iaload, 1) := by decide +kernel
theorem dL_law_1062 : decode cL_law 1062 = .ok (.aload_n 0, 1) := by decide +kernel
theorem dL_law_1063 : decode cL_law 1063 = .ok (.iload_n 3, 1) := by decide +kernel
theorem dL_law_1064 : decode cL_law 1064 = .ok (.iconst 2, 1) := by decide +kernel
theorem dL_law_1065 : decode cL_law 1065 = .ok (.iadd, 1) := by decide +kernel
theorem dL_law_1066 : decode cL_law 1066 = .ok (.iaload, 1) := by decide +kernel
theorem dL_law_1067 : decode cL_law 1067 = .ok (.aload_n 0, 1) := by decide +kernel
theorem dL_law_1068 : decode cL_law 1068 = .ok (.iload_n 3, 1) := by decide +kernel
theorem dL_law_1069 : decode cL_law 1069 = .ok (.iconst 3, 1) := by decide +kernel
theorem dL_law_1070 : decode cL_law 1070 = .ok (.iadd, 1) := by decide +kernel
theorem dL_law_1071 : decode cL_law 1071 = .ok (.iaload, 1) := by decide +kernel
theorem dL_law_1072 : decode cL_law 1072 = .ok (.invokevirtual 122, 3) := by decide +kernel
theorem dL_law_1075 : decode cL_law 1075 = .ok (.if_icmp .eq 463, 3) := by decide +kernel
theorem dL_law_1078 : decode cL_law 1078 = .ok (.iconst 0, 1) := by decide +kernel
theorem dL_law_1079 : decode cL_law 1079 = .ok (.ireturn, 1) := by decide +kernel
theorem dL_law_1080 : decode cL_law 1080 = .ok (.aload_n 1, 1) := by decide +kernel
theorem dL_law_1081 : decode cL_law 1081 = .ok (.aload_n 0, 1) := by decide +kernel
theorem dL_law_1082 : decode cL_law 1082 = .ok (.iload_n 3, 1) := by decide +kernel
theorem dL_law_1083 : decode cL_law 1083 = .ok (.iconst 1, 1) := by decide +kernel
theorem dL_law_1084 : decode cL_law 1084 = .ok (.iadd, 1) := by decide +kernel
theorem dL_law_1085 : decode cL_law 1085 = .ok (.iaload, 1) := by decide +kernel
theorem dL_law_1086 : decode cL_law 1086 = .ok (.invokevirtual 123, 3) := by decide +kernel
theorem dL_law_1089 : decode cL_law 1089 = .ok (.aload_n 2, 1) := by decide +kernel
theorem dL_law_1090 : decode cL_law 1090 = .ok (.aload_n 0, 1) := by decide +kernel
theorem dL_law_1091 : decode cL_law 1091 = .ok (.iload_n 3, 1) := by decide +kernel
theorem dL_law_1092 : decode cL_law 1092 = .ok (.iconst 1, 1) := by decide +kernel
theorem dL_law_1093 : decode cL_law 1093 = .ok (.iadd, 1) := by decide +kernel
theorem dL_law_1094 : decode cL_law 1094 = .ok (.iaload, 1) := by decide +kernel
theorem dL_law_1095 : decode cL_law 1095 = .ok (.invokevirtual 126, 3) := by decide +kernel
theorem dL_law_1098 : decode cL_law 1098 = .ok (.if_icmp .eq 440, 3) := by decide +kernel
theorem dL_law_1101 : decode cL_law 1101 = .ok (.iconst 0, 1) := by decide +kernel
theorem dL_law_1102 : decode cL_law 1102 = .ok (.ireturn, 1) := by decide +kernel
theorem dL_law_1103 : decode cL_law 1103 = .ok (.aload_n 1, 1) := by decide +kernel
theorem dL_law_1104 : decode cL_law 1104 = .ok (.invokevirtual 127, 3) := by decide +kernel
theorem dL_law_1107 : decode cL_law 1107 = .ok (.aload_n 2, 1) := by decide +kernel
theorem dL_law_1108 : decode cL_law 1108 = .ok (.invokevirtual 130, 3) := by decide +kernel
theorem dL_law_1111 : decode cL_law 1111 = .ok (.if_icmp .eq 427, 3) := by decide +kernel
theorem dL_law_1114 : decode cL_law 1114 = .ok (.iconst 0, 1) := by decide +kernel
theorem dL_law_1115 : decode cL_law 1115 = .ok (.ireturn, 1) := by decide +kernel
theorem dL_law_1116 : decode cL_law 1116 = .ok (.aload_n 1, 1) := by decide +kernel
theorem dL_law_1117 : decode cL_law 1117 = .ok (.aload_n 0, 1) := by decide +kernel
theorem dL_law_1118 : decode cL_law 1118 = .ok (.iload_n 3, 1) := by decide +kernel
theorem dL_law_1119 : decode cL_law 1119 = .ok (.iconst 1, 1) := by decide +kernel
theorem dL_law_1120 : decode cL_law 1120 = .ok (.iadd, 1) := by decide +kernel
theorem dL_law_1121 : decode cL_law 1121 = .ok (.iaload, 1) := by decide +kernel
theorem dL_law_1122 : decode cL_law 1122 = .ok (.aload_n 0, 1) := by decide +kernel
theorem dL_law_1123 : decode cL_law 1123 = .ok (.iload_n 3, 1) := by decide +kernel
theorem dL_law_1124 : decode cL_law 1124 = .ok (.iconst 2, 1) := by decide +kernel
theorem dL_law_1125 : decode cL_law 1125 = .ok (.iadd, 1) := by decide +kernel
theorem dL_law_1126 : decode cL_law 1126 = .ok (.iaload, 1) := by decide +kernel
theorem dL_law_1127 : decode cL_law 1127 = .ok (.invokevirtual 131, 3) := by decide +kernel
theorem dL_law_1130 : decode cL_law 1130 = .ok (.aload_n 2, 1) := by decide +kernel
theorem dL_law_1131 : decode cL_law 1131 = .ok (.aload_n 0, 1) := by decide +kernel
theorem dL_law_1132 : decode cL_law 1132 = .ok (.iload_n 3, 1) := by decide +kernel
theorem dL_law_1133 : decode cL_law 1133 = .ok (.iconst 1, 1) := by decide +kernel
theorem dL_law_1134 : decode cL_law 1134 = .ok (.iadd, 1) := by decide +kernel
theorem dL_law_1135 : decode cL_law 1135 = .ok (.iaload, 1) := by decide +kernel
theorem dL_law_1136 : decode cL_law 1136 = .ok (.aload_n 0, 1) := by decide +kernel
theorem dL_law_1137 : decode cL_law 1137 = .ok (.iload_n 3, 1) := by decide +kernel
theorem dL_law_1138 : decode cL_law 1138 = .ok (.iconst 2, 1) := by decide +kernel
theorem dL_law_1139 : decode cL_law 1139 = .ok (.iadd, 1) := by decide +kernel
theorem dL_law_1140 : decode cL_law 1140 = .ok (.iaload, 1) := by decide +kernel
theorem dL_law_1141 : decode cL_law 1141 = .ok (.invokevirtual 134, 3) := by decide +kernel
theorem dL_law_1144 : decode cL_law 1144 = .ok (.if_icmp .eq 394, 3) := by decide +kernel
theorem dL_law_1147 : decode cL_law 1147 = .ok (.iconst 0, 1) := by decide +kernel
theorem dL_law_1148 : decode cL_law 1148 = .ok (.ireturn, 1) := by decide +kernel
theorem dL_law_1149 : decode cL_law 1149 = .ok (.aload_n 1, 1) := by decide +kernel
theorem dL_law_1150 : decode cL_law 1150 = .ok (.aload_n 0, 1) := by decide +kernel
theorem dL_law_1151 : decode cL_law 1151 = .ok (.iload_n 3, 1) := by decide +kernel
theorem dL_law_1152 : decode cL_law 1152 = .ok (.iconst 1, 1) := by decide +kernel
theorem dL_law_1153 : decode cL_law 1153 = .ok (.iadd, 1) := by decide +kernel
theorem dL_law_1154 : decode cL_law 1154 = .ok (.iaload, 1) := by decide +kernel
theorem dL_law_1155 : decode cL_law 1155 = .ok (.invokevirtual 135, 3) := by decide +kernel
theorem dL_law_1158 : decode cL_law 1158 = .ok (.aload_n 2, 1) := by decide +kernel
theorem dL_law_1159 : decode cL_law 1159 = .ok (.aload_n 0, 1) := by decide +kernel
theorem dL_law_1160 : decode cL_law 1160 = .ok (.iload_n 3, 1) := by decide +kernel
theorem dL_law_1161 : decode cL_law 1161 = .ok (.iconst 1, 1) := by decide +kernel
theorem dL_law_1162 : decode cL_law 1162 = .ok (.iadd, 1) := by decide +kernel
theorem dL_law_1163 : decode cL_law 1163 = .ok (.iaload, 1) := by decide +kernel
theorem dL_law_1164 : decode cL_law 1164 = .ok (.invokevirtual 138, 3) := by decide +kernel
theorem dL_law_1167 : decode cL_law 1167 = .ok (.if_icmp .eq 371, 3) := by decide +kernel
theorem dL_law_1170 : decode cL_law 1170 = .ok (.iconst 0, 1) := by decide +kernel
theorem dL_law_1171 : decode cL_law 1171 = .ok (.ireturn, 1) := by decide +kernel
theorem dL_law_1172 : decode cL_law 1172 = .ok (.aload_n 1, 1) := by decide +kernel
theorem dL_law_1173 : decode cL_law 1173 = .ok (.aload_n 0, 1) := by decide +kernel
theorem dL_law_1174 : decode cL_law 1174 = .ok (.iload_n 3, 1) := by decide +kernel
theorem dL_law_1175 : decode cL_law 1175 = .ok (.iconst 1, 1) := by decide +kernel
theorem dL_law_1176 : decode cL_law 1176 = .ok (.iadd, 1) := by decide +kernel
theorem dL_law_1177 : decode cL_law 1177 = .ok (.iaload, 1) := by decide +kernel
theorem dL_law_1178 : decode cL_law 1178 = .ok (.aload_n 0, 1) := by decide +kernel
theorem dL_law_1179 : decode cL_law 1179 = .ok (.iload_n 3, 1) := by decide +kernel
theorem dL_law_1180 : decode cL_law 1180 = .ok (.iconst 2, 1) := by decide +kernel
theorem dL_law_1181 : decode cL_law 1181 = .ok (.iadd, 1) := by decide +kernel
theorem dL_law_1182 : decode cL_law 1182 = .ok (.iaload, 1) := by decide +kernel
theorem dL_law_1183 : decode cL_law 1183 = .ok (.invokevirtual 139, 3) := by decide +kernel
theorem dL_law_1186 : decode cL_law 1186 = .ok (.aload_n 2, 1) := by decide +kernel
theorem dL_law_1187 : decode cL_law 1187 = .ok (.aload_n 0, 1) := by decide +kernel
theorem dL_law_1188 : decode cL_law 1188 = .ok (.iload_n 3, 1) := by decide +kernel
theorem dL_law_1189 : decode cL_law 1189 = .ok (.iconst 1, 1) := by decide +kernel
theorem dL_law_1190 : decode cL_law 1190 = .ok (.iadd, 1) := by decide +kernel
theorem dL_law_1191 : decode cL_law 1191 = .ok (.iaload, 1) := by decide +kernel
theorem dL_law_1192 : decode cL_law 1192 = .ok (.aload_n 0, 1) := by decide +kernel
theorem dL_law_1193 : decode cL_law 1193 = .ok (.iload_n 3, 1) := by decide +kernel
theorem dL_law_1194 : decode cL_law 1194 = .ok (.iconst 2, 1) := by decide +kernel
theorem dL_law_1195 : decode cL_law 1195 = .ok (.iadd, 1) := by decide +kernel
theorem dL_law_1196 : decode cL_law 1196 = .ok (.iaload, 1) := by decide +kernel
theorem dL_law_1197 : decode cL_law 1197 = .ok (.invokevirtual 142, 3) := by decide +kernel
theorem dL_law_1200 : decode cL_law 1200 = .ok (.if_icmp .eq 338, 3) := by decide +kernel
theorem dL_law_1203 : decode cL_law 1203 = .ok (.iconst 0, 1) := by decide +kernel
theorem dL_law_1204 : decode cL_law 1204 = .ok (.ireturn, 1) := by decide +kernel
theorem dL_law_1205 : decode cL_law 1205 = .ok (.aload_n 1, 1) := by decide +kernel
theorem dL_law_1206 : decode cL_law 1206 = .ok (.aload_n 0, 1) := by decide +kernel
theorem dL_law_1207 : decode cL_law 1207 = .ok (.iload_n 3, 1) := by decide +kernel
theorem dL_law_1208 : decode cL_law 1208 = .ok (.iconst 1, 1) := by decide +kernel
theorem dL_law_1209 : decode cL_law 1209 = .ok (.iadd, 1) := by decide +kernel
theorem dL_law_1210 : decode cL_law 1210 = .ok (.iaload, 1) := by decide +kernel
theorem dL_law_1211 : decode cL_law 1211 = .ok (.aload_n 0, 1) := by decide +kernel
theorem dL_law_1212 : decode cL_law 1212 = .ok (.iload_n 3, 1) := by decide +kernel
theorem dL_law_1213 : decode cL_law 1213 = .ok (.iconst 2, 1) := by decide +kernel
theorem dL_law_1214 : decode cL_law 1214 = .ok (.iadd, 1) := by decide +kernel
theorem dL_law_1215 : decode cL_law 1215 = .ok (.iaload, 1) := by decide +kernel
theorem dL_law_1216 : decode cL_law 1216 = .ok (.invokevirtual 143, 3) := by decide +kernel
theorem dL_law_1219 : decode cL_law 1219 = .ok (.aload_n 2, 1) := by decide +kernel
theorem dL_law_1220 : decode cL_law 1220 = .ok (.aload_n 0, 1) := by decide +kernel
theorem dL_law_1221 : decode cL_law 1221 = .ok (.iload_n 3, 1) := by decide +kernel
theorem dL_law_1222 : decode cL_law 1222 = .ok (.iconst 1, 1) := by decide +kernel
theorem dL_law_1223 : decode cL_law 1223 = .ok (.iadd, 1) := by decide +kernel
theorem dL_law_1224 : decode cL_law 1224 = .ok (.iaload, 1) := by decide +kernel
theorem dL_law_1225 : decode cL_law 1225 = .ok (.aload_n 0, 1) := by decide +kernel
theorem dL_law_1226 : decode cL_law 1226 = .ok (.iload_n 3, 1) := by decide +kernel
theorem dL_law_1227 : decode cL_law 1227 = .ok (.iconst 2, 1) := by decide +kernel
theorem dL_law_1228 : decode cL_law 1228 = .ok (.iadd, 1) := by decide +kernel
theorem dL_law_1229 : decode cL_law 1229 = .ok (.iaload, 1) := by decide +kernel
theorem dL_law_1230 : decode cL_law 1230 = .ok (.invokevirtual 146, 3) := by decide +kernel
theorem dL_law_1233 : decode cL_law 1233 = .ok (.if_icmp .eq 305, 3) := by decide +kernel
theorem dL_law_1236 : decode cL_law 1236 = .ok (.iconst 0, 1) := by decide +kernel
theorem dL_law_1237 : decode cL_law 1237 = .ok (.ireturn, 1) := by decide +kernel
theorem dL_law_1238 : decode cL_law 1238 = .ok (.aload_n 1, 1) := by decide +kernel
theorem dL_law_1239 : decode cL_law 1239 = .ok (.aload_n 0, 1) := by decide +kernel
theorem dL_law_1240 : decode cL_law 1240 = .ok (.iload_n 3, 1) := by decide +kernel
theorem dL_law_1241 : decode cL_law 1241 = .ok (.iconst 1, 1) := by decide +kernel
theorem dL_law_1242 : decode cL_law 1242 = .ok (.iadd, 1) := by decide +kernel
theorem dL_law_1243 : decode cL_law 1243 = .ok (.iaload, 1) := by decide +kernel
theorem dL_law_1244 : decode cL_law 1244 = .ok (.aload_n 0, 1) := by decide +kernel
theorem dL_law_1245 : decode cL_law 1245 = .ok (.iload_n 3, 1) := by decide +kernel
theorem dL_law_1246 : decode cL_law 1246 = .ok (.iconst 2, 1) := by decide +kernel
theorem dL_law_1247 : decode cL_law 1247 = .ok (.iadd, 1) := by decide +kernel
theorem dL_law_1248 : decode cL_law 1248 = .ok (.iaload, 1) := by decide +kernel
theorem dL_law_1249 : decode cL_law 1249 = .ok (.aload_n 0, 1) := by decide +kernel
theorem dL_law_1250 : decode cL_law 1250 = .ok (.iload_n 3, 1) := by decide +kernel
theorem dL_law_1251 : decode cL_law 1251 = .ok (.iconst 3, 1) := by decide +kernel
theorem dL_law_1252 : decode cL_law 1252 = .ok (.iadd, 1) := by decide +kernel
theorem dL_law_1253 : decode cL_law 1253 = .ok (.iaload, 1) := by decide +kernel
theorem dL_law_1254 : decode cL_law 1254 = .ok (.invokevirtual 147, 3) := by decide +kernel
theorem dL_law_1257 : decode cL_law 1257 = .ok (.aload_n 2, 1) := by decide +kernel
theorem dL_law_1258 : decode cL_law 1258 = .ok (.aload_n 0, 1) := by decide +kernel
theorem dL_law_1259 : decode cL_law 1259 = .ok (.iload_n 3, 1) := by decide +kernel
theorem dL_law_1260 : decode cL_law 1260 = .ok (.iconst 1, 1) := by decide +kernel
theorem dL_law_1261 : decode cL_law 1261 = .ok (.iadd, 1) := by decide +kernel
theorem dL_law_1262 : decode cL_law 1262 = .ok (.iaload, 1) := by decide +kernel
theorem dL_law_1263 : decode cL_law 1263 = .ok (.aload_n 0, 1) := by decide +kernel
theorem dL_law_1264 : decode cL_law 1264 = .ok (.iload_n 3, 1) := by decide +kernel
theorem dL_law_1265 : decode cL_law 1265 = .ok (.iconst 2, 1) := by decide +kernel
theorem dL_law_1266 : decode cL_law 1266 = .ok (.iadd, 1) := by decide +kernel
theorem dL_law_1267 : decode cL_law 1267 = .ok (.iaload, 1) := by decide +kernel
theorem dL_law_1268 : decode cL_law 1268 = .ok (.aload_n 0, 1) := by decide +kernel
theorem dL_law_1269 : decode cL_law 1269 = .ok (.iload_n 3, 1) := by decide +kernel
theorem dL_law_1270 : decode cL_law 1270 = .ok (.iconst 3, 1) := by decide +kernel
theorem dL_law_1271 : decode cL_law 1271 = .ok (.iadd, 1) := by decide +kernel
theorem dL_law_1272 : decode cL_law 1272 = .ok (.iaload, 1) := by decide +kernel
theorem dL_law_1273 : decode cL_law 1273 = .ok (.invokevirtual 150, 3) := by decide +kernel
theorem dL_law_1276 : decode cL_law 1276 = .ok (.if_icmp .eq 262, 3) := by decide +kernel
theorem dL_law_1279 : decode cL_law 1279 = .ok (.iconst 0, 1) := by decide +kernel
theorem dL_law_1280 : decode cL_law 1280 = .ok (.ireturn, 1) := by decide +kernel
theorem dL_law_1281 : decode cL_law 1281 = .ok (.aload_n 1, 1) := by decide +kernel
theorem dL_law_1282 : decode cL_law 1282 = .ok (.aload_n 0, 1) := by decide +kernel
theorem dL_law_1283 : decode cL_law 1283 = .ok (.iload_n 3, 1) := by decide +kernel
theorem dL_law_1284 : decode cL_law 1284 = .ok (.iconst 1, 1) := by decide +kernel
theorem dL_law_1285 : decode cL_law 1285 = .ok (.iadd, 1) := by decide +kernel
theorem dL_law_1286 : decode cL_law 1286 = .ok (.iaload, 1) := by decide +kernel
theorem dL_law_1287 : decode cL_law 1287 = .ok (.aload_n 0, 1) := by decide +kernel
theorem dL_law_1288 : decode cL_law 1288 = .ok (.iload_n 3, 1) := by decide +kernel
theorem dL_law_1289 : decode cL_law 1289 = .ok (.iconst 2, 1) := by decide +kernel
theorem dL_law_1290 : decode cL_law 1290 = .ok (.iadd, 1) := by decide +kernel
theorem dL_law_1291 : decode cL_law 1291 = .ok (.iaload, 1) := by decide +kernel
theorem dL_law_1292 : decode cL_law 1292 = .ok (.aload_n 0, 1) := by decide +kernel
theorem dL_law_1293 : decode cL_law 1293 = .ok (.iload_n 3, 1) := by decide +kernel
theorem dL_law_1294 : decode cL_law 1294 = .ok (.iconst 3, 1) := by decide +kernel
theorem dL_law_1295 : decode cL_law 1295 = .ok (.iadd, 1) := by decide +kernel
theorem dL_law_1296 : decode cL_law 1296 = .ok (.iaload, 1) := by decide +kernel
theorem dL_law_1297 : decode cL_law 1297 = .ok (.invokevirtual 151, 3) := by decide +kernel
theorem dL_law_1300 : decode cL_law 1300 = .ok (.aload_n 2, 1) := by decide +kernel
theorem dL_law_1301 : decode cL_law 1301 = .ok (.aload_n 0, 1) := by decide +kernel
theorem dL_law_1302 : decode cL_law 1302 = .ok (.iload_n 3, 1) := by decide +kernel
theorem dL_law_1303 : decode cL_law 1303 = .ok (.iconst 1, 1) := by decide +kernel
theorem dL_law_1304 : decode cL_law 1304 = .ok (.iadd, 1) := by decide +kernel
theorem dL_law_1305 : decode cL_law 1305 = .ok (.iaload, 1) := by decide +kernel
theorem dL_law_1306 : decode cL_law 1306 = .ok (.aload_n 0, 1) := by decide +kernel
theorem dL_law_1307 : decode cL_law 1307 = .ok (.iload_n 3, 1) := by decide +kernel
theorem dL_law_1308 : decode cL_law 1308 = .ok (.iconst 2, 1) := by decide +kernel
theorem dL_law_1309 : decode cL_law 1309 = .ok (.iadd, 1) := by decide +kernel
theorem dL_law_1310 : decode cL_law 1310 = .ok (.iaload, 1) := by decide +kernel
theorem dL_law_1311 : decode cL_law 1311 = .ok (.aload_n 0, 1) := by decide +kernel
theorem dL_law_1312 : decode cL_law 1312 = .ok (.iload_n 3, 1) := by decide +kernel
theorem dL_law_1313 : decode cL_law 1313 = .ok (.iconst 3, 1) := by decide +kernel
theorem dL_law_1314 : decode cL_law 1314 = .ok (.iadd, 1) := by decide +kernel
theorem dL_law_1315 : decode cL_law 1315 = .ok (.iaload, 1) := by decide +kernel
theorem dL_law_1316 : decode cL_law 1316 = .ok (.invokevirtual 154, 3) := by decide +kernel
theorem dL_law_1319 : decode cL_law 1319 = .ok (.if_icmp .eq 219, 3) := by decide +kernel
theorem dL_law_1322 : decode cL_law 1322 = .ok (.iconst 0, 1) := by decide +kernel
theorem dL_law_1323 : decode cL_law 1323 = .ok (.ireturn, 1) := by decide +kernel
theorem dL_law_1324 : decode cL_law 1324 = .ok (.aload_n 1, 1) := by decide +kernel
theorem dL_law_1325 : decode cL_law 1325 = .ok (.aload_n 0, 1) := by decide +kernel
theorem dL_law_1326 : decode cL_law 1326 = .ok (.iload_n 3, 1) := by decide +kernel
theorem dL_law_1327 : decode cL_law 1327 = .ok (.iconst 1, 1) := by decide +kernel
theorem dL_law_1328 : decode cL_law 1328 = .ok (.iadd, 1) := by decide +kernel
theorem dL_law_1329 : decode cL_law 1329 = .ok (.iaload, 1) := by decide +kernel
theorem dL_law_1330 : decode cL_law 1330 = .ok (.aload_n 0, 1) := by decide +kernel
theorem dL_law_1331 : decode cL_law 1331 = .ok (.iload_n 3, 1) := by decide +kernel
theorem dL_law_1332 : decode cL_law 1332 = .ok (.iconst 2, 1) := by decide +kernel
theorem dL_law_1333 : decode cL_law 1333 = .ok (.iadd, 1) := by decide +kernel
theorem dL_law_1334 : decode cL_law 1334 = .ok (.iaload, 1) := by decide +kernel
theorem dL_law_1335 : decode cL_law 1335 = .ok (.aload_n 0, 1) := by decide +kernel
theorem dL_law_1336 : decode cL_law 1336 = .ok (.iload_n 3, 1) := by decide +kernel
theorem dL_law_1337 : decode cL_law 1337 = .ok (.iconst 3, 1) := by decide +kernel
theorem dL_law_1338 : decode cL_law 1338 = .ok (.iadd, 1) := by decide +kernel
theorem dL_law_1339 : decode cL_law 1339 = .ok (.iaload, 1) := by decide +kernel
theorem dL_law_1340 : decode cL_law 1340 = .ok (.aload_n 0, 1) := by decide +kernel
theorem dL_law_1341 : decode cL_law 1341 = .ok (.iload_n 3, 1) := by decide +kernel
theorem dL_law_1342 : decode cL_law 1342 = .ok (.iconst 4, 1) := by decide +kernel
theorem dL_law_1343 : decode cL_law 1343 = .ok (.iadd, 1) := by decide +kernel
theorem dL_law_1344 : decode cL_law 1344 = .ok (.iaload, 1) := by decide +kernel
theorem dL_law_1345 : decode cL_law 1345 = .ok (.aload_n 0, 1) := by decide +kernel
theorem dL_law_1346 : decode cL_law 1346 = .ok (.iload_n 3, 1) := by decide +kernel
theorem dL_law_1347 : decode cL_law 1347 = .ok (.iconst 5, 1) := by decide +kernel
theorem dL_law_1348 : decode cL_law 1348 = .ok (.iadd, 1) := by decide +kernel
theorem dL_law_1349 : decode cL_law 1349 = .ok (.iaload, 1) := by decide +kernel
theorem dL_law_1350 : decode cL_law 1350 = .ok (.invokevirtual 155, 3) := by decide +kernel
theorem dL_law_1353 : decode cL_law 1353 = .ok (.aload_n 2, 1) := by decide +kernel
theorem dL_law_1354 : decode cL_law 1354 = .ok (.aload_n 0, 1) := by decide +kernel
theorem dL_law_1355 : decode cL_law 1355 = .ok (.iload_n 3, 1) := by decide +kernel
theorem dL_law_1356 : decode cL_law 1356 = .ok (.iconst 1, 1) := by decide +kernel
theorem dL_law_1357 : decode cL_law 1357 = .ok (.iadd, 1) := by decide +kernel
theorem dL_law_1358 : decode cL_law 1358 = .ok (.iaload, 1) := by decide +kernel
theorem dL_law_1359 : decode cL_law 1359 = .ok (.aload_n 0, 1) := by decide +kernel
theorem dL_law_1360 : decode cL_law 1360 = .ok (.iload_n 3, 1) := by decide +kernel
theorem dL_law_1361 : decode cL_law 1361 = .ok (.iconst 2, 1) := by decide +kernel
theorem dL_law_1362 : decode cL_law 1362 = .ok (.iadd, 1) := by decide +kernel
theorem dL_law_1363 : decode cL_law 1363 = .ok (.iaload, 1) := by decide +kernel
theorem dL_law_1364 : decode cL_law 1364 = .ok (.aload_n 0, 1) := by decide +kernel
theorem dL_law_1365 : decode cL_law 1365 = .ok (.iload_n 3, 1) := by decide +kernel
theorem dL_law_1366 : decode cL_law 1366 = .ok (.iconst 3, 1) := by decide +kernel
theorem dL_law_1367 : decode cL_law 1367 = .ok (.iadd, 1) := by decide +kernel
theorem dL_law_1368 : decode cL_law 1368 = .ok (.iaload, 1) := by decide +kernel
theorem dL_law_1369 : decode cL_law 1369 = .ok (.aload_n 0, 1) := by decide +kernel
theorem dL_law_1370 : decode cL_law 1370 = .ok (.iload_n 3, 1) := by decide +kernel
theorem dL_law_1371 : decode cL_law 1371 = .ok (.iconst 4, 1) := by decide +kernel
theorem dL_law_1372 : decode cL_law 1372 = .ok (.iadd, 1) := by decide +kernel
theorem dL_law_1373 : decode cL_law 1373 = .ok (.iaload, 1) := by decide +kernel
theorem dL_law_1374 : decode cL_law 1374 = .ok (.aload_n 0, 1) := by decide +kernel
theorem dL_law_1375 : decode cL_law 1375 = .ok (.iload_n 3, 1) := by decide +kernel
theorem dL_law_1376 : decode cL_law 1376 = .ok (.iconst 5, 1) := by decide +kernel
theorem dL_law_1377 : decode cL_law 1377 = .ok (.iadd, 1) := by decide +kernel
theorem dL_law_1378 : decode cL_law 1378 = .ok (.iaload, 1) := by decide +kernel
theorem dL_law_1379 : decode cL_law 1379 = .ok (.invokevirtual 159, 3) := by decide +kernel
theorem dL_law_1382 : decode cL_law 1382 = .ok (.if_icmp .eq 156, 3) := by decide +kernel
theorem dL_law_1385 : decode cL_law 1385 = .ok (.iconst 0, 1) := by decide +kernel
theorem dL_law_1386 : decode cL_law 1386 = .ok (.ireturn, 1) := by decide +kernel
theorem dL_law_1387 : decode cL_law 1387 = .ok (.aload_n 1, 1) := by decide +kernel
theorem dL_law_1388 : decode cL_law 1388 = .ok (.aload_n 0, 1) := by decide +kernel
theorem dL_law_1389 : decode cL_law 1389 = .ok (.iload_n 3, 1) := by decide +kernel
theorem dL_law_1390 : decode cL_law 1390 = .ok (.iconst 1, 1) := by decide +kernel
theorem dL_law_1391 : decode cL_law 1391 = .ok (.iadd, 1) := by decide +kernel
theorem dL_law_1392 : decode cL_law 1392 = .ok (.iaload, 1) := by decide +kernel
theorem dL_law_1393 : decode cL_law 1393 = .ok (.aload_n 0, 1) := by decide +kernel
theorem dL_law_1394 : decode cL_law 1394 = .ok (.iload_n 3, 1) := by decide +kernel
theorem dL_law_1395 : decode cL_law 1395 = .ok (.iconst 2, 1) := by decide +kernel
theorem dL_law_1396 : decode cL_law 1396 = .ok (.iadd, 1) := by decide +kernel
theorem dL_law_1397 : decode cL_law 1397 = .ok (.iaload, 1) := by decide +kernel
theorem dL_law_1398 : decode cL_law 1398 = .ok (.invokevirtual 160, 3) := by decide +kernel
theorem dL_law_1401 : decode cL_law 1401 = .ok (.aload_n 2, 1) := by decide +kernel
theorem dL_law_1402 : decode cL_law 1402 = .ok (.aload_n 0, 1) := by decide +kernel
theorem dL_law_1403 : decode cL_law 1403 = .ok (.iload_n 3, 1) := by decide +kernel
theorem dL_law_1404 : decode cL_law 1404 = .ok (.iconst 1, 1) := by decide +kernel
theorem dL_law_1405 : decode cL_law 1405 = .ok (.iadd, 1) := by decide +kernel
theorem dL_law_1406 : decode cL_law 1406 = .ok (.iaload, 1) := by decide +kernel
theorem dL_law_1407 : decode cL_law 1407 = .ok (.aload_n 0, 1) := by decide +kernel
theorem dL_law_1408 : decode cL_law 1408 = .ok (.iload_n 3, 1) := by decide +kernel
theorem dL_law_1409 : decode cL_law 1409 = .ok (.iconst 2, 1) := by decide +kernel
theorem dL_law_1410 : decode cL_law 1410 = .ok (.iadd, 1) := by decide +kernel
theorem dL_law_1411 : decode cL_law 1411 = .ok (.iaload, 1) := by decide +kernel
theorem dL_law_1412 : decode cL_law 1412 = .ok (.invokevirtual 163, 3) := by decide +kernel
theorem dL_law_1415 : decode cL_law 1415 = .ok (.if_icmp .eq 123, 3) := by decide +kernel
theorem dL_law_1418 : decode cL_law 1418 = .ok (.iconst 0, 1) := by decide +kernel
theorem dL_law_1419 : decode cL_law 1419 = .ok (.ireturn, 1) := by decide +kernel
theorem dL_law_1420 : decode cL_law 1420 = .ok (.aload_n 1, 1) := by decide +kernel
theorem dL_law_1421 : decode cL_law 1421 = .ok (.aload_n 0, 1) := by decide +kernel
theorem dL_law_1422 : decode cL_law 1422 = .ok (.iload_n 3, 1) := by decide +kernel
theorem dL_law_1423 : decode cL_law 1423 = .ok (.iconst 1, 1) := by decide +kernel
theorem dL_law_1424 : decode cL_law 1424 = .ok (.iadd, 1) := by decide +kernel
theorem dL_law_1425 : decode cL_law 1425 = .ok (.iaload, 1) := by decide +kernel
theorem dL_law_1426 : decode cL_law 1426 = .ok (.aload_n 0, 1) := by decide +kernel
theorem dL_law_1427 : decode cL_law 1427 = .ok (.iload_n 3, 1) := by decide +kernel
theorem dL_law_1428 : decode cL_law 1428 = .ok (.iconst 2, 1) := by decide +kernel
theorem dL_law_1429 : decode cL_law 1429 = .ok (.iadd, 1) := by decide +kernel
theorem dL_law_1430 : decode cL_law 1430 = .ok (.iaload, 1) := by decide +kernel
theorem dL_law_1431 : decode cL_law 1431 = .ok (.invokevirtual 164, 3) := by decide +kernel
theorem dL_law_1434 : decode cL_law 1434 = .ok (.aload_n 2, 1) := by decide +kernel
theorem dL_law_1435 : decode cL_law 1435 = .ok (.aload_n 0, 1) := by decide +kernel
theorem dL_law_1436 : decode cL_law 1436 = .ok (.iload_n 3, 1) := by decide +kernel
theorem dL_law_1437 : decode cL_law 1437 = .ok (.iconst 1, 1) := by decide +kernel
theorem dL_law_1438 : decode cL_law 1438 = .ok (.iadd, 1) := by decide +kernel
theorem dL_law_1439 : decode cL_law 1439 = .ok (.iaload, 1) := by decide +kernel
theorem dL_law_1440 : decode cL_law 1440 = .ok (.aload_n 0, 1) := by decide +kernel
theorem dL_law_1441 : decode cL_law 1441 = .ok (.iload_n 3, 1) := by decide +kernel
theorem dL_law_1442 : decode cL_law 1442 = .ok (.iconst 2, 1) := by decide +kernel
theorem dL_law_1443 : decode cL_law 1443 = .ok (.iadd, 1) := by decide +kernel
theorem dL_law_1444 : decode cL_law 1444 = .ok (.iaload, 1) := by decide +kernel
theorem dL_law_1445 : decode cL_law 1445 = .ok (.invokevirtual 167, 3) := by decide +kernel
theorem dL_law_1448 : decode cL_law 1448 = .ok (.if_icmp .eq 90, 3) := by decide +kernel
theorem dL_law_1451 : decode cL_law 1451 = .ok (.iconst 0, 1) := by decide +kernel
theorem dL_law_1452 : decode cL_law 1452 = .ok (.ireturn, 1) := by decide +kernel
theorem dL_law_1453 : decode cL_law 1453 = .ok (.aload_n 1, 1) := by decide +kernel
theorem dL_law_1454 : decode cL_law 1454 = .ok (.invokevirtual 168, 3) := by decide +kernel
theorem dL_law_1457 : decode cL_law 1457 = .ok (.aload_n 2, 1) := by decide +kernel
theorem dL_law_1458 : decode cL_law 1458 = .ok (.invokevirtual 171, 3) := by decide +kernel
theorem dL_law_1461 : decode cL_law 1461 = .ok (.if_icmp .eq 77, 3) := by decide +kernel
theorem dL_law_1464 : decode cL_law 1464 = .ok (.iconst 0, 1) := by decide +kernel
theorem dL_law_1465 : decode cL_law 1465 = .ok (.ireturn, 1) := by decide +kernel
theorem dL_law_1466 : decode cL_law 1466 = .ok (.aload_n 1, 1) := by decide +kernel
theorem dL_law_1467 : decode cL_law 1467 = .ok (.invokevirtual 172, 3) := by decide +kernel
theorem dL_law_1470 : decode cL_law 1470 = .ok (.aload_n 2, 1) := by decide +kernel
theorem dL_law_1471 : decode cL_law 1471 = .ok (.invokevirtual 175, 3) := by decide +kernel
theorem dL_law_1474 : decode cL_law 1474 = .ok (.if_icmp .eq 64, 3) := by decide +kernel
theorem dL_law_1477 : decode cL_law 1477 = .ok (.iconst 0, 1) := by decide +kernel
theorem dL_law_1478 : decode cL_law 1478 = .ok (.ireturn, 1) := by decide +kernel
theorem dL_law_1479 : decode cL_law 1479 = .ok (.aload_n 1, 1) := by decide +kernel
theorem dL_law_1480 : decode cL_law 1480 = .ok (.invokevirtual 176, 3) := by decide +kernel
theorem dL_law_1483 : decode cL_law 1483 = .ok (.aload_n 2, 1) := by decide +kernel
theorem dL_law_1484 : decode cL_law 1484 = .ok (.invokevirtual 179, 3) := by decide +kernel
theorem dL_law_1487 : decode cL_law 1487 = .ok (.if_icmp .eq 51, 3) := by decide +kernel
theorem dL_law_1490 : decode cL_law 1490 = .ok (.iconst 0, 1) := by decide +kernel
theorem dL_law_1491 : decode cL_law 1491 = .ok (.ireturn, 1) := by decide +kernel
theorem dL_law_1492 : decode cL_law 1492 = .ok (.aload_n 1, 1) := by decide +kernel
theorem dL_law_1493 : decode cL_law 1493 = .ok (.aload_n 0, 1) := by decide +kernel
theorem dL_law_1494 : decode cL_law 1494 = .ok (.iload_n 3, 1) := by decide +kernel
theorem dL_law_1495 : decode cL_law 1495 = .ok (.iconst 1, 1) := by decide +kernel
theorem dL_law_1496 : decode cL_law 1496 = .ok (.iadd, 1) := by decide +kernel
theorem dL_law_1497 : decode cL_law 1497 = .ok (.iaload, 1) := by decide +kernel
theorem dL_law_1498 : decode cL_law 1498 = .ok (.invokevirtual 180, 3) := by decide +kernel
theorem dL_law_1501 : decode cL_law 1501 = .ok (.aload_n 2, 1) := by decide +kernel
theorem dL_law_1502 : decode cL_law 1502 = .ok (.aload_n 0, 1) := by decide +kernel
theorem dL_law_1503 : decode cL_law 1503 = .ok (.iload_n 3, 1) := by decide +kernel
theorem dL_law_1504 : decode cL_law 1504 = .ok (.iconst 1, 1) := by decide +kernel
theorem dL_law_1505 : decode cL_law 1505 = .ok (.iadd, 1) := by decide +kernel
theorem dL_law_1506 : decode cL_law 1506 = .ok (.iaload, 1) := by decide +kernel
theorem dL_law_1507 : decode cL_law 1507 = .ok (.invokevirtual 183, 3) := by decide +kernel
theorem dL_law_1510 : decode cL_law 1510 = .ok (.if_icmp .eq 28, 3) := by decide +kernel
theorem dL_law_1513 : decode cL_law 1513 = .ok (.iconst 0, 1) := by decide +kernel
theorem dL_law_1514 : decode cL_law 1514 = .ok (.ireturn, 1) := by decide +kernel
theorem dL_law_1515 : decode cL_law 1515 = .ok (.aload_n 1, 1) := by decide +kernel
theorem dL_law_1516 : decode cL_law 1516 = .ok (.aload_n 0, 1) := by decide +kernel
theorem dL_law_1517 : decode cL_law 1517 = .ok (.iload_n 3, 1) := by decide +kernel
theorem dL_law_1518 : decode cL_law 1518 = .ok (.iconst 1, 1) := by decide +kernel
theorem dL_law_1519 : decode cL_law 1519 = .ok (.iadd, 1) := by decide +kernel
theorem dL_law_1520 : decode cL_law 1520 = .ok (.iaload, 1) := by decide +kernel
theorem dL_law_1521 : decode cL_law 1521 = .ok (.invokevirtual 184, 3) := by decide +kernel
theorem dL_law_1524 : decode cL_law 1524 = .ok (.aload_n 2, 1) := by decide +kernel
theorem dL_law_1525 : decode cL_law 1525 = .ok (.aload_n 0, 1) := by decide +kernel
theorem dL_law_1526 : decode cL_law 1526 = .ok (.iload_n 3, 1) := by decide +kernel
theorem dL_law_1527 : decode cL_law 1527 = .ok (.iconst 1, 1) := by decide +kernel
theorem dL_law_1528 : decode cL_law 1528 = .ok (.iadd, 1) := by decide +kernel
theorem dL_law_1529 : decode cL_law 1529 = .ok (.iaload, 1) := by decide +kernel
theorem dL_law_1530 : decode cL_law 1530 = .ok (.invokevirtual 187, 3) := by decide +kernel
theorem dL_law_1533 : decode cL_law 1533 = .ok (.if_icmp .eq 5, 3) := by decide +kernel
theorem dL_law_1536 : decode cL_law 1536 = .ok (.iconst 0, 1) := by decide +kernel
theorem dL_law_1537 : decode cL_law 1537 = .ok (.ireturn, 1) := by decide +kernel
theorem dL_law_1538 : decode cL_law 1538 = .ok (.iinc 3 6, 3) := by decide +kernel
theorem dL_law_1541 : decode cL_law 1541 = .ok (.goto (-1523), 3) := by decide +kernel
theorem dL_law_1544 : decode cL_law 1544 = .ok (.iconst 1, 1) := by decide +kernel
theorem dL_law_1545 : decode cL_law 1545 = .ok (.ireturn, 1) := by decide +kernel
end
section
/-! ===== the world of this claim: cells by small numbers; what the machine's heap holds of them ===== -/
abbrev Mem : Type := Nat → Nat → Int32
abbrev Ent : Type := Nat → va_E
/-- launch; the heap at the law's entry; the classes' numbers and slots; the classes of int[] and Sheet[]; where that stands which was there before; the script; the static formatter -/
abbrev Wd : Type := Launch × Heap × va_G × (ClassId × ClassId) × (Nat → Nat) × (Nat × (Nat → Int32)) × Value
abbrev wl (w : Wd) : Launch := w.1
abbrev wH (w : Wd) : Heap := w.2.1
abbrev wD (w : Wd) : va_G := w.2.2.1
abbrev wI (w : Wd) : ClassId := w.2.2.2.1.1
abbrev wR (w : Wd) : ClassId := w.2.2.2.1.2
abbrev wX (w : Wd) : Nat → Nat := w.2.2.2.2.1
abbrev wL (w : Wd) : Nat := w.2.2.2.2.2.1.1
abbrev wS (w : Wd) : Nat → Int32 := w.2.2.2.2.2.1.2
abbrev wV (w : Wd) : Value := w.2.2.2.2.2.2
def wB (w : Wd) : Nat := (wH w).size
def wA (w : Wd) : Nat → Prop := fun q => wB w ≤ q
/-- a value by numbers of cells, as the machine has it -/
def cv (w : Wd) : Value → Value
  | .ref k => .ref (if k < 1000 then wB w + k else wX w (k - 1000))
  | .int x => .int x
  | .long x => .long x
  | .float x => .float x
  | .double x => .double x
  | .null => .null
  | .retAddr x => .retAddr x
theorem cv_int (w : Wd) (x : Int32) : cv w (.int x) = .int x := rfl
theorem cv_long (w : Wd) (x : Int64) : cv w (.long x) = .long x := rfl
theorem cv_lo (w : Wd) {k : Nat} (h : k < 1000) : cv w (.ref k) = .ref (wB w + k) := by simp [cv, h]
theorem cv_hi (w : Wd) (k : Nat) : cv w (.ref (1000 + k)) = .ref (wX w k) := by
  have h : ¬ 1000 + k < 1000 := by omega
  simp [cv, h]
theorem cv_cat (w : Wd) (v : Value) : (cv w v).category = v.category := by cases v <;> rfl
theorem cv_cats (w : Wd) (l : List Value) : ((l.map (cv w)).map fun v => v.category).sum = (l.map fun v => v.category).sum := by
  rw [List.map_map]
  congr 1
  apply List.map_congr_left
  intro v _
  exact cv_cat w v
def cvA (w : Wd) : vp_A → vp_A
  | (n, .inr (.inr (.inr (.inr f)))) => (n, .inr (.inr (.inr (.inr (fun i => (f i).map (fun k => wB w + k))))))
  | (n, .inl f) => (n, .inl f)
  | x => x
def cvE (w : Wd) : va_E → va_E
  | .inl (c, x) => .inl (if c = 0 then wI w else wR w, cvA w x)
  | .inr (ci, fs) => .inr (ci, fs.map (cv w))
def HH (w : Wd) (H : Heap) (n : Nat) (es : Ent) : Prop := n ≤ 1000 ∧ H.size = wB w + n ∧ (∀ q : Nat, q < wB w → H[q]? = (wH w)[q]?) ∧ ∀ k, k < n → va_at (wD w) vwCl (wB w + k, cvE w (es k)) H
/-- the tables' words that any method may be given -/
def tG : List Cond := lw_tbl.filter goodWord
theorem tG_of {x : Cond} (i : Nat) (h : lw_tbl[i]? = some x) (hg : goodWord x = true) : x ∈ tG := List.mem_filter.mpr ⟨List.mem_of_getElem? h, hg⟩
theorem tG_good : GoodIn tG tG := fun x hx => ⟨hx, good_of_word (List.mem_filter.mp hx).2⟩
/-- words on private members of nest mates -/
def isNest : Cond → Bool
  | .fieldLinkNest _ _ _ _ _ _ => true
  | .methodLinkNest _ _ _ _ => true
  | _ => false
def tN : List Cond := lw_tbl.filter isNest
theorem tN_of {x : Cond} (i : Nat) (h : lw_tbl[i]? = some x) (hg : isNest x = true) : x ∈ tN := List.mem_filter.mpr ⟨List.mem_of_getElem? h, hg⟩
theorem tN_warm {x : Cond} (hx : isNest x = true) {s U : State} (hW : s.WarmedH U.vm) (h : va_Nw x s) : va_Nw x U := by
  cases x <;> first | exact va_Nw.warmF hW h | exact va_Nw.warmM hW h | (exact absurd hx (by decide)) | (simp [isNest] at hx)
theorem tN_same {x : Cond} (hx : isNest x = true) {s U : State} (hW : s.vm = U.vm) (h : va_Nw x s) : va_Nw x U := by
  cases x <;> first | exact va_Nw.same rfl hW h | (exact absurd hx (by decide)) | (simp [isNest] at hx)
theorem tN_on {x : Cond} (hx : isNest x = true) : x.onTables = true := by
  cases x <;> first | rfl | (exact absurd hx (by decide)) | (simp [isNest] at hx)
end
section
def strO : Nat → String := fun i => match i with
  | 0 => "PaneThread$Reader"
  | 1 => "PaneThread$Reader"
  | 2 => "PaneThread$Reader"
  | 3 => "PaneThread$Reader"
  | 4 => "PaneThread$Reader"
  | 5 => "PaneThread$Reader"
  | 6 => "PaneThread$Reader"
  | 7 => "PaneThread$Reader"
  | 8 => "PaneThread$Reader"
  | 9 => "PaneThread$Reader"
  | 10 => "PaneThread$Reader"
  | 11 => "PaneThread$Reader"
  | 12 => "PaneThread$Reader"
  | 13 => "PaneThread$Reader"
  | 14 => "PaneThreadModel"
  | 15 => "PaneThreadModel"
  | 16 => "PaneThreadModel"
  | 17 => "PaneThreadModel"
  | 18 => "PaneThreadModel"
  | 19 => "PaneThreadModel"
  | 20 => "PaneThreadModel"
  | 21 => "PaneThreadModel"
  | 22 => "PaneThreadModel"
  | 23 => "PaneThreadModel"
  | 24 => "PaneThreadModel"
  | 25 => "PaneThreadModel"
  | 26 => "PaneThreadModel"
  | 27 => "PaneThreadModel"
  | _ => ""

def strK : Nat → Nat := fun i => match i with
  | 0 => 94
  | 1 => 96
  | 2 => 98
  | 3 => 100
  | 4 => 102
  | 5 => 104
  | 6 => 106
  | 7 => 108
  | 8 => 110
  | 9 => 112
  | 10 => 114
  | 11 => 116
  | 12 => 118
  | 13 => 62
  | 14 => 207
  | 15 => 213
  | 16 => 215
  | 17 => 217
  | 18 => 219
  | 19 => 221
  | 20 => 223
  | 21 => 225
  | 22 => 227
  | 23 => 229
  | 24 => 231
  | 25 => 233
  | 26 => 235
  | 27 => 245
  | _ => 0

def strT : Nat → String := fun i => match i with
  | 0 => "going"
  | 1 => "dropping"
  | 2 => "straight"
  | 3 => "standing"
  | 4 => "swinging"
  | 5 => "broken"
  | 6 => "plaited"
  | 7 => "again"
  | 8 => "wait"
  | 9 => "lean"
  | 10 => "fade"
  | 11 => "wind"
  | 12 => "finger"
  | 13 => "at"
  | 14 => "going"
  | 15 => "dropping"
  | 16 => "straight"
  | 17 => "standing"
  | 18 => "swinging"
  | 19 => "broken"
  | 20 => "plaited"
  | 21 => "again"
  | 22 => "wait"
  | 23 => "lean"
  | 24 => "wind"
  | 25 => "fade"
  | 26 => "finger"
  | 27 => "at"
  | _ => ""

def strB : Nat → List Int32 := fun i => match i with
  | 0 => [103, 111, 105, 110, 103]
  | 1 => [100, 114, 111, 112, 112, 105, 110, 103]
  | 2 => [115, 116, 114, 97, 105, 103, 104, 116]
  | 3 => [115, 116, 97, 110, 100, 105, 110, 103]
  | 4 => [115, 119, 105, 110, 103, 105, 110, 103]
  | 5 => [98, 114, 111, 107, 101, 110]
  | 6 => [112, 108, 97, 105, 116, 101, 100]
  | 7 => [97, 103, 97, 105, 110]
  | 8 => [119, 97, 105, 116]
  | 9 => [108, 101, 97, 110]
  | 10 => [102, 97, 100, 101]
  | 11 => [119, 105, 110, 100]
  | 12 => [102, 105, 110, 103, 101, 114]
  | 13 => [97, 116]
  | 14 => [103, 111, 105, 110, 103]
  | 15 => [100, 114, 111, 112, 112, 105, 110, 103]
  | 16 => [115, 116, 114, 97, 105, 103, 104, 116]
  | 17 => [115, 116, 97, 110, 100, 105, 110, 103]
  | 18 => [115, 119, 105, 110, 103, 105, 110, 103]
  | 19 => [98, 114, 111, 107, 101, 110]
  | 20 => [112, 108, 97, 105, 116, 101, 100]
  | 21 => [97, 103, 97, 105, 110]
  | 22 => [119, 97, 105, 116]
  | 23 => [108, 101, 97, 110]
  | 24 => [119, 105, 110, 100]
  | 25 => [102, 97, 100, 101]
  | 26 => [102, 105, 110, 103, 101, 114]
  | 27 => [97, 116]
  | _ => []
def tabA : Nat → Int32 := fun i => match i with
  | 0 => -1
  | 1 => 0
  | 2 => 0
  | 3 => 2
  | 4 => 0
  | 5 => 4
  | 6 => 2
  | _ => 1
def tabL : Nat → Int32 := fun i => if i < 9 then 1 else 0
def tabM : Nat → Int32 := fun i => match i with
  | 8 => 50
  | 9 => 9
  | 10 => 9
  | 11 => 20
  | 12 => 11
  | _ => 99
/-- static arrays: their place, their length, what they hold -/
def KT (w : Wd) (U : State) (i : Nat) (n : String) (N : Nat) (f : Nat → Int32) : Prop := va_Z RX10 n "[I" (.ref (wX w i)) (wA w) U (wH w) ∧ va_T .int (wX w i) N (fun j => .int (f j)) (wA w) U (wH w)
def KSt (w : Wd) (U : State) : Prop := KT w U 1 "ABOVE" 8 tabA ∧ KT w U 2 "LEAST_OF_DEED" 13 tabL ∧ KT w U 3 "MOST_OF_DEED" 13 tabM ∧ va_Z RJ0 "COMPACT_STRINGS" "Z" (.int 1) (wA w) U (wH w) ∧ va_Z RJ3 "SIOOBE_FORMATTER" "Ljava/util/function/BiFunction;" (cv w (wV w)) (wA w) U (wH w)
/-- the text constants -/
def KStr (w : Wd) (U : State) : Prop := ∀ i, i < 28 → vk_R (strO i) (strK i) (strT i) (wX w (4 + i)) U ∧ va_O "java/lang/String" (wX w (4 + i)) (wA w) U (wH w) ∧ va_OF "java/lang/String" "coder" "B" (.int 0) (wX w (4 + i)) (wA w) U (wH w) ∧ va_OF "java/lang/String" "value" "[B" (.ref (wX w (32 + i))) (wX w (4 + i)) (wA w) U (wH w) ∧ va_T .byte (wX w (32 + i)) (strB i).length (fun j => .int ((strB i).getD j 0)) (wA w) U (wH w)
/-- what the tables and the heap at the law's entry say, at every state -/
def KS (w : Wd) (U : State) : Prop := va_K (wD w) vwCl [(wI w, .int), (wR w, .object RX6)] U ∧ (∀ x ∈ tN, va_Nw x U) ∧ (va_X (wX w 0) (wL w) (wS w) U (wH w) ∧ wX w 0 < wB w) ∧ KSt w U ∧ KStr w U ∧ va_AO RX6 U ∧ (wV w).category = 1
theorem KSt.moved {w : Wd} {u U : State} (h : u.vm.Alike U.vm) (k : KSt w u) : KSt w U := by
  obtain ⟨⟨a1, a2⟩, ⟨b1, b2⟩, ⟨c1, c2⟩, d, e⟩ := k
  exact ⟨⟨va_Z.moved h a1, va_T.moved h a2⟩, ⟨va_Z.moved h b1, va_T.moved h b2⟩, ⟨va_Z.moved h c1, va_T.moved h c2⟩, va_Z.moved h d, va_Z.moved h e⟩
theorem KS.warm {w : Wd} {s U : State} (hW : s.WarmedH U.vm) (k : KS w s) : KS w U := by
  obtain ⟨k1, k2, ⟨k3, k3'⟩, k4, k5, k6, k7⟩ := k
  have h := hW.alike
  refine ⟨va_K.moved h k1, fun x hx => tN_warm (List.mem_filter.mp hx).2 hW (k2 x hx), ⟨va_X.moved h k3, k3'⟩, KSt.moved h k4, fun i hi => ?_, va_AO.moved h k6, k7⟩
  obtain ⟨a, b, c, d, e⟩ := k5 i hi
  exact ⟨vk_R.warm hW a, va_O.moved h b, va_OF.moved h c, va_OF.moved h d, va_T.moved h e⟩
theorem KS.same {w : Wd} {s U : State} (hv : s.vm = U.vm) (k : KS w s) : KS w U := by
  obtain ⟨k1, k2, ⟨k3, k3'⟩, k4, k5, k6, k7⟩ := k
  have h : s.vm.Alike U.vm := by rw [hv]; exact Vm.Alike.refl _
  refine ⟨va_K.moved h k1, fun x hx => tN_same (List.mem_filter.mp hx).2 hv (k2 x hx), ⟨va_X.moved h k3, k3'⟩, KSt.moved h k4, fun i hi => ?_, va_AO.moved h k6, k7⟩
  obtain ⟨a, b, c, d, e⟩ := k5 i hi
  exact ⟨vk_R.same hv.symm a, va_O.moved h b, va_OF.moved h c, va_OF.moved h d, va_T.moved h e⟩
theorem HH.old {w : Wd} {H : Heap} {n : Nat} {es : Ent} (h : HH w H n es) : ∀ a : Nat, a < (wH w).size → ¬ wA w a → H[a]? = (wH w)[a]? := fun a ha _ => h.2.2.1 a ha
/-- a method: its name, code, number of locals, type of answer -/
abbrev MI : Type := MethodName × ByteArray × Nat × Option FieldType
/-- what is known in a frame of a method -/
def FX (w : Wd) (mi : MI) (p : Program) (s : State) (m : MethodId) (args : Array Value) (meth : Method) (c : Code) : Prop :=
  p.tables.exec = Jvm.exec ∧ c.code = mi.2.1 ∧ meth.sig.returnType = mi.2.2.2 ∧ c.maxLocals = mi.2.2.1 ∧ s.vm.findClass mi.1.cls = some m.cls ∧ meth.locks = false ∧ meth.name = mi.1.name ∧ (∀ x ∈ tG, x.before args s = true) ∧ KS w s
def RJ (w : Wd) (R : Room) (mi : MI) (ce sl pc : Nat) (lv : List (Nat × Value)) (st : List Value) (n : Nat) (es : Ent) (F : Array Value → State → List Frame → State → Prop) : Prop :=
  ∀ (p : Program) (e : Env) (s : State) (m : MethodId) (args : Array Value) (below : List Frame) (meth : Method) (c : Code) (H : Heap) (locs : List Loc) (ls : Array Slot),
    FX w mi p s m args meth c → (∀ q ∈ locs, wB w ≤ q.base) → HH w H n es → lv_has ls mi.2.2.1 (lv.map (fun q => (q.1, cv w q.2))) →
    W p (wl w) e R s m args below meth c H locs ce sl (F args s below) (F0 m pc ls (st.map (cv w)))
def rmk (h mc ms : Nat) : Room := { frames := h, cells := mc, slots := ms, locals := 39 * h }
def QC (w : Wd) (Q : Option Value → Nat → Ent → Prop) : Array Value → State → Outcome → State → Prop := fun _ _ o t => ∃ r n es, o = .returned (r.map (cv w)) ∧ HH w t.heap n es ∧ Q r n es
def FM (w : Wd) (mc ms : Nat) (Q : Option Value → Nat → Ent → Prop) : Array Value → State → List Frame → State → Prop := fun args s below => MQ below (QC w Q) args s mc ms (wA w)
/-- a method's contract at given arguments and cells -/
def CO (w : Wd) (h : Nat) (mi : MI) (mc ms : Nat) (as : List Value) (n : Nat) (es : Ent) (Q : Option Value → Nat → Ent → Prop) : Prop :=
  Met (wl w) mi.1 (Cond.code mi.1 mi.2.1 mi.2.2.1 mi.2.2.2 :: tG) (rmk h mc ms) (fun a U => a = (as.map (cv w)).toArray ∧ KS w U ∧ HH w U.heap n es) (QC w Q) mc ms (wA w)
theorem lv_args_cv (w : Wd) : ∀ (as : List Value) (i : Nat), lv_args i (as.map (cv w)) = (lv_args i as).map (fun q => (q.1, cv w q.2))
  | [], _ => rfl
  | v :: t, i => by
    show (i, cv w v) :: lv_args (if (cv w v).category = 2 then i + 2 else i + 1) (t.map (cv w)) = (i, cv w v) :: (lv_args (if v.category = 2 then i + 2 else i + 1) t).map _
    rw [cv_cat, lv_args_cv w t]
theorem lg_sl_cv (w : Wd) : ∀ as : List Value, (lg_sl (as.map (cv w))).length = (lg_sl as).length
  | [] => rfl
  | v :: t => by
    have ih := lg_sl_cv w t
    simp only [lg_sl, List.map_cons, List.flatMap_cons, List.length_append, cv_cat] at ih ⊢
    rw [ih]
    by_cases h : v.category = 2 <;> simp [h]
/-- a contract out of a walk from the entry -/
theorem co_of {w : Wd} {h : Nat} {mi : MI} {mc ms : Nat} {as : List Value} {n : Nat} {es : Ent} {Q : Option Value → Nat → Ent → Prop} (hp : plainName mi.1.cls = true) (hl : (lg_sl as).length ≤ mi.2.2.1)
    (k : RJ w (rmk h mc ms) mi 0 0 0 (lv_args 0 as) [] n es (FM w mc ms Q)) : CO w h mi mc ms as n es Q := by
  refine Met.ofW (cc := mi.2.1) (maxL := mi.2.2.1) (ret := mi.2.2.2) hp rfl ?_
  intro p e s m args below meth c s₁ B hml hv
  obtain ⟨rfl, hK, hH⟩ := hv
  have hts := atoms_spec (ws := Cond.code mi.1 mi.2.1 mi.2.2.1 mi.2.2.2 :: tG) B.pre
  have hown : s.vm.findClass mi.1.cls = some m.cls := findClass_of_methodNamed B.named
  have hl' : (lg_sl (as.map (cv w))).length ≤ mi.2.2.1 := by rw [lg_sl_cv]; exact hl
  have hlv := lv_entry (as.map (cv w)) (n := mi.2.2.1) hl'
  rw [lg_entry_eq]
  rw [lv_args_cv] at hlv
  exact k p e s m (as.map (cv w)).toArray below meth c s.heap [] _ ⟨B.exec, B.bytes, B.returns, hml, hown, B.notSynchronized, (name_of_methodNamed B.named B.method).1, fun x hx => hts x (List.mem_cons_of_mem _ hx), hK⟩ (fun q h => by cases h) hH hlv
end
section
/-! ===== one rule an instruction ===== -/
def lset (i : Nat) (v : Value) : List (Nat × Value) → List (Nat × Value)
  | [] => [(i, v)]
  | q :: t => if q.1 = i then (i, v) :: t.filter (fun q => !(q.1 == i)) else q :: lset i v t
theorem lset_mem {i : Nat} {v : Value} : ∀ {lv : List (Nat × Value)} {x : Nat × Value}, x ∈ lset i v lv → x = (i, v) ∨ (x ∈ lv ∧ x.1 ≠ i)
  | [], x, h => Or.inl (List.mem_singleton.mp h)
  | q :: t, x, h => by
    unfold lset at h
    by_cases hq : q.1 = i
    · rw [if_pos hq] at h
      rcases List.mem_cons.mp h with h | h
      · exact Or.inl h
      · obtain ⟨h1, h2⟩ := List.mem_filter.mp h
        exact Or.inr ⟨List.mem_cons_of_mem _ h1, by simpa using h2⟩
    · rw [if_neg hq] at h
      rcases List.mem_cons.mp h with h | h
      · subst h; exact Or.inr ⟨List.mem_cons_self, hq⟩
      · rcases lset_mem h with h | h
        · exact Or.inl h
        · exact Or.inr ⟨List.mem_cons_of_mem _ h.1, h.2⟩
def cat1 (lv : List (Nat × Value)) : Bool := lv.all (fun q => q.2.category == 1)
theorem lset_has {w : Wd} {ls : Array Slot} {N i : Nat} {v : Value} {lv lv' : List (Nat × Value)} (hc : cat1 lv = true) (hl : lset i v lv = lv')
    (h : lv_has ls N ((i, cv w v) :: (lv.map (fun q => (q.1, cv w q.2))).filter (fun q => !(q.1 == i) && !(q.1 + 1 == i && q.2.category == 2)))) : lv_has ls N (lv'.map (fun q => (q.1, cv w q.2))) := by
  subst hl
  refine ⟨h.1, h.2.1, fun x hx => ?_⟩
  obtain ⟨y, hy, rfl⟩ := List.mem_map.mp hx
  refine h.2.2 _ ?_
  rcases lset_mem hy with rfl | ⟨h1, h2⟩
  · exact List.mem_cons_self
  · refine List.mem_cons_of_mem _ (List.mem_filter.mpr ⟨List.mem_map.mpr ⟨y, h1, rfl⟩, ?_⟩)
    have h3 := List.all_eq_true.mp hc y h1
    simp only [beq_iff_eq] at h3
    simp [cv_cat, h2, h3]
section RULES
variable {w : Wd} {R : Room} {mi : MI} {ce sl pc : Nat} {lv lv' : List (Nat × Value)} {st : List Value} {n : Nat} {es : Ent} {F : Array Value → State → List Frame → State → Prop}
theorem lv_get {ls : Array Slot} {N : Nat} (h : lv_has ls N (lv.map (fun q => (q.1, cv w q.2)))) {q i : Nat} {v : Value} (hq : lv[q]? = some (i, v)) : ls[i]? = some (.val (cv w v)) :=
  lv_at h q (by rw [List.getElem?_map, hq]; rfl)
theorem rj_eq {pc' : Nat} (h : pc = pc') (kk : RJ w R mi ce sl pc' lv st n es F) : RJ w R mi ce sl pc lv st n es F := h ▸ kk
theorem rj_top {x : Int32} (kk : ∀ y : Int32, y = x → RJ w R mi ce sl pc lv (.int y :: st) n es F) : RJ w R mi ce sl pc lv (.int x :: st) n es F := kk x rfl

theorem rj_iconst {k : Int} {v : Int32} (hd : decode mi.2.1 pc = .ok (.iconst k, 1)) (hc : Int32.ofInt k = v) (kk : RJ w R mi ce sl (pc + 1) lv (.int v :: st) n es F) : RJ w R mi ce sl pc lv (st) n es F :=
  fun p e s m args below meth c H locs ls f hl hh hv => lv_iconst f.1 f.2.1 hd hc (kk p e s m args below meth c H locs ls f hl hh hv)
theorem rj_bipush {k : Int} {v : Int32} (hd : decode mi.2.1 pc = .ok (.bipush k, 2)) (hc : (Int8.ofInt k).toInt32 = v) (kk : RJ w R mi ce sl (pc + 2) lv (.int v :: st) n es F) : RJ w R mi ce sl pc lv (st) n es F :=
  fun p e s m args below meth c H locs ls f hl hh hv => lv_bipush f.1 f.2.1 hd hc (kk p e s m args below meth c H locs ls f hl hh hv)
theorem rj_sipush {k : Int} {v : Int32} (hd : decode mi.2.1 pc = .ok (.sipush k, 3)) (hc : (Int16.ofInt k).toInt32 = v) (kk : RJ w R mi ce sl (pc + 3) lv (.int v :: st) n es F) : RJ w R mi ce sl pc lv (st) n es F :=
  fun p e s m args below meth c H locs ls f hl hh hv => lv_sipush f.1 f.2.1 hd hc (kk p e s m args below meth c H locs ls f hl hh hv)
theorem rj_lconst {k : Fin 2} {v : Int64} (hd : decode mi.2.1 pc = .ok (.lconst k, 1)) (hc : Int64.ofNat (k : Nat) = v) (kk : RJ w R mi ce sl (pc + 1) lv (.long v :: st) n es F) : RJ w R mi ce sl pc lv (st) n es F :=
  fun p e s m args below meth c H locs ls f hl hh hv => lv_lconst f.1 f.2.1 hd hc (kk p e s m args below meth c H locs ls f hl hh hv)
theorem rj_iload_n {k : Fin 4} {i : Nat} {x : Int32} (hd : decode mi.2.1 pc = .ok (.iload_n k, 1)) (q : Nat) (hi : (k : Nat) = i) (hq : lv[q]? = some (i, .int x)) (kk : RJ w R mi ce sl (pc + 1) lv (.int x :: st) n es F) : RJ w R mi ce sl pc lv (st) n es F :=
  fun p e s m args below meth c H locs ls f hl hh hv => lv_iload_n f.1 f.2.1 hd hi (lv_get hv hq) (kk p e s m args below meth c H locs ls f hl hh hv)
theorem rj_iload {i : Nat} {x : Int32} (hd : decode mi.2.1 pc = .ok (.iload i, 2)) (q : Nat) (hq : lv[q]? = some (i, .int x)) (kk : RJ w R mi ce sl (pc + 2) lv (.int x :: st) n es F) : RJ w R mi ce sl pc lv (st) n es F :=
  fun p e s m args below meth c H locs ls f hl hh hv => lv_iload f.1 f.2.1 hd (lv_get hv hq) (kk p e s m args below meth c H locs ls f hl hh hv)
theorem rj_lload_n {k : Fin 4} {i : Nat} {x : Int64} (hd : decode mi.2.1 pc = .ok (.lload_n k, 1)) (q : Nat) (hi : (k : Nat) = i) (hq : lv[q]? = some (i, .long x)) (kk : RJ w R mi ce sl (pc + 1) lv (.long x :: st) n es F) : RJ w R mi ce sl pc lv (st) n es F :=
  fun p e s m args below meth c H locs ls f hl hh hv => lv_lload_n f.1 f.2.1 hd hi (lv_get hv hq) (kk p e s m args below meth c H locs ls f hl hh hv)
theorem rj_lload {i : Nat} {x : Int64} (hd : decode mi.2.1 pc = .ok (.lload i, 2)) (q : Nat) (hq : lv[q]? = some (i, .long x)) (kk : RJ w R mi ce sl (pc + 2) lv (.long x :: st) n es F) : RJ w R mi ce sl pc lv (st) n es F :=
  fun p e s m args below meth c H locs ls f hl hh hv => lv_lload f.1 f.2.1 hd (lv_get hv hq) (kk p e s m args below meth c H locs ls f hl hh hv)
theorem rj_aload_n {k : Fin 4} {i : Nat} {x : Nat} (hd : decode mi.2.1 pc = .ok (.aload_n k, 1)) (q : Nat) (hi : (k : Nat) = i) (hq : lv[q]? = some (i, .ref x)) (kk : RJ w R mi ce sl (pc + 1) lv (.ref x :: st) n es F) : RJ w R mi ce sl pc lv (st) n es F :=
  fun p e s m args below meth c H locs ls f hl hh hv => lv_aload_n f.1 f.2.1 hd hi (lv_get hv hq) (kk p e s m args below meth c H locs ls f hl hh hv)
theorem rj_aload {i : Nat} {x : Nat} (hd : decode mi.2.1 pc = .ok (.aload i, 2)) (q : Nat) (hq : lv[q]? = some (i, .ref x)) (kk : RJ w R mi ce sl (pc + 2) lv (.ref x :: st) n es F) : RJ w R mi ce sl pc lv (st) n es F :=
  fun p e s m args below meth c H locs ls f hl hh hv => lv_aload f.1 f.2.1 hd (lv_get hv hq) (kk p e s m args below meth c H locs ls f hl hh hv)
theorem rj_istore_n {k : Fin 4} {i : Nat} {x : Int32} (hd : decode mi.2.1 pc = .ok (.istore_n k, 1)) (hi : (k : Nat) = i) (hn : i < mi.2.2.1) (hc : cat1 lv = true) (hs : lset i (.int x) lv = lv') (kk : RJ w R mi ce sl (pc + 1) lv' (st) n es F) : RJ w R mi ce sl pc lv (.int x :: st) n es F :=
  fun p e s m args below meth c H locs ls f hl hh hv => lv_istore_n f.1 f.2.1 hd hi hv hn rfl (fun ls1 h1 => kk p e s m args below meth c H locs ls1 f hl hh (lset_has hc hs h1))
theorem rj_istore {i : Nat} {x : Int32} (hd : decode mi.2.1 pc = .ok (.istore i, 2)) (hn : i < mi.2.2.1) (hc : cat1 lv = true) (hs : lset i (.int x) lv = lv') (kk : RJ w R mi ce sl (pc + 2) lv' (st) n es F) : RJ w R mi ce sl pc lv (.int x :: st) n es F :=
  fun p e s m args below meth c H locs ls f hl hh hv => lv_istore f.1 f.2.1 hd hv hn rfl (fun ls1 h1 => kk p e s m args below meth c H locs ls1 f hl hh (lset_has hc hs h1))
theorem rj_astore_n {k : Fin 4} {i : Nat} {x : Nat} (hd : decode mi.2.1 pc = .ok (.astore_n k, 1)) (hi : (k : Nat) = i) (hn : i < mi.2.2.1) (hc : cat1 lv = true) (hs : lset i (.ref x) lv = lv') (kk : RJ w R mi ce sl (pc + 1) lv' (st) n es F) : RJ w R mi ce sl pc lv (.ref x :: st) n es F :=
  fun p e s m args below meth c H locs ls f hl hh hv => lv_astore_n f.1 f.2.1 hd hi hv hn rfl (fun ls1 h1 => kk p e s m args below meth c H locs ls1 f hl hh (lset_has hc hs h1))
theorem rj_astore {i : Nat} {x : Nat} (hd : decode mi.2.1 pc = .ok (.astore i, 2)) (hn : i < mi.2.2.1) (hc : cat1 lv = true) (hs : lset i (.ref x) lv = lv') (kk : RJ w R mi ce sl (pc + 2) lv' (st) n es F) : RJ w R mi ce sl pc lv (.ref x :: st) n es F :=
  fun p e s m args below meth c H locs ls f hl hh hv => lv_astore f.1 f.2.1 hd hv hn rfl (fun ls1 h1 => kk p e s m args below meth c H locs ls1 f hl hh (lset_has hc hs h1))
theorem rj_iinc {i : Nat} {k : Int} {x v : Int32} (hd : decode mi.2.1 pc = .ok (.iinc i k, 3)) (q : Nat) (hq : lv[q]? = some (i, .int x)) (hx : x + Int32.ofInt k = v) (hn : i < mi.2.2.1) (hc : cat1 lv = true) (hs : lset i (.int v) lv = lv') (kk : RJ w R mi ce sl (pc + 3) lv' (st) n es F) : RJ w R mi ce sl pc lv (st) n es F :=
  fun p e s m args below meth c H locs ls f hl hh hv => lv_iinc f.1 f.2.1 hd hv (by rw [List.getElem?_map, hq]; rfl) hx hn rfl (fun ls1 h1 => kk p e s m args below meth c H locs ls1 f hl hh (lset_has hc hs h1))
theorem rj_iadd {x y : Int32} (hd : decode mi.2.1 pc = .ok (.iadd, 1))  (kk : RJ w R mi ce sl (pc + 1) lv (.int (x + y) :: st) n es F) : RJ w R mi ce sl pc lv (.int y :: .int x :: st) n es F :=
  fun p e s m args below meth c H locs ls f hl hh hv => lv_iadd f.1 f.2.1 hd (kk p e s m args below meth c H locs ls f hl hh hv)
theorem rj_isub {x y : Int32} (hd : decode mi.2.1 pc = .ok (.isub, 1))  (kk : RJ w R mi ce sl (pc + 1) lv (.int (x - y) :: st) n es F) : RJ w R mi ce sl pc lv (.int y :: .int x :: st) n es F :=
  fun p e s m args below meth c H locs ls f hl hh hv => lv_isub f.1 f.2.1 hd (kk p e s m args below meth c H locs ls f hl hh hv)
theorem rj_imul {x y : Int32} (hd : decode mi.2.1 pc = .ok (.imul, 1))  (kk : RJ w R mi ce sl (pc + 1) lv (.int (x * y) :: st) n es F) : RJ w R mi ce sl pc lv (.int y :: .int x :: st) n es F :=
  fun p e s m args below meth c H locs ls f hl hh hv => lv_imul f.1 f.2.1 hd (kk p e s m args below meth c H locs ls f hl hh hv)
theorem rj_iand {x y : Int32} (hd : decode mi.2.1 pc = .ok (.iand, 1))  (kk : RJ w R mi ce sl (pc + 1) lv (.int (x &&& y) :: st) n es F) : RJ w R mi ce sl pc lv (.int y :: .int x :: st) n es F :=
  fun p e s m args below meth c H locs ls f hl hh hv => lv_iand f.1 f.2.1 hd (kk p e s m args below meth c H locs ls f hl hh hv)
theorem rj_ior {x y : Int32} (hd : decode mi.2.1 pc = .ok (.ior, 1))  (kk : RJ w R mi ce sl (pc + 1) lv (.int (x ||| y) :: st) n es F) : RJ w R mi ce sl pc lv (.int y :: .int x :: st) n es F :=
  fun p e s m args below meth c H locs ls f hl hh hv => lv_ior f.1 f.2.1 hd (kk p e s m args below meth c H locs ls f hl hh hv)
theorem rj_ixor {x y : Int32} (hd : decode mi.2.1 pc = .ok (.ixor, 1))  (kk : RJ w R mi ce sl (pc + 1) lv (.int (x ^^^ y) :: st) n es F) : RJ w R mi ce sl pc lv (.int y :: .int x :: st) n es F :=
  fun p e s m args below meth c H locs ls f hl hh hv => lv_ixor f.1 f.2.1 hd (kk p e s m args below meth c H locs ls f hl hh hv)
theorem rj_ishl {x y : Int32} (hd : decode mi.2.1 pc = .ok (.ishl, 1))  (kk : RJ w R mi ce sl (pc + 1) lv (.int (x <<< (y &&& 31)) :: st) n es F) : RJ w R mi ce sl pc lv (.int y :: .int x :: st) n es F :=
  fun p e s m args below meth c H locs ls f hl hh hv => lv_ishl f.1 f.2.1 hd (kk p e s m args below meth c H locs ls f hl hh hv)
theorem rj_ishr {x y : Int32} (hd : decode mi.2.1 pc = .ok (.ishr, 1))  (kk : RJ w R mi ce sl (pc + 1) lv (.int (x >>> (y &&& 31)) :: st) n es F) : RJ w R mi ce sl pc lv (.int y :: .int x :: st) n es F :=
  fun p e s m args below meth c H locs ls f hl hh hv => lv_ishr f.1 f.2.1 hd (kk p e s m args below meth c H locs ls f hl hh hv)
theorem rj_iushr {x y : Int32} (hd : decode mi.2.1 pc = .ok (.iushr, 1))  (kk : RJ w R mi ce sl (pc + 1) lv (.int ((x.toUInt32 >>> (y.toUInt32 &&& Int32.toUInt32 31)).toInt32) :: st) n es F) : RJ w R mi ce sl pc lv (.int y :: .int x :: st) n es F :=
  fun p e s m args below meth c H locs ls f hl hh hv => lv_iushr f.1 f.2.1 hd rfl (kk p e s m args below meth c H locs ls f hl hh hv)
theorem rj_idiv {x y : Int32} (hd : decode mi.2.1 pc = .ok (.idiv, 1)) (h0 : ¬ y = 0) (kk : RJ w R mi ce sl (pc + 1) lv (.int (x / y) :: st) n es F) : RJ w R mi ce sl pc lv (.int y :: .int x :: st) n es F :=
  fun p e s m args below meth c H locs ls f hl hh hv => lv_idiv f.1 f.2.1 hd h0 (kk p e s m args below meth c H locs ls f hl hh hv)
theorem rj_irem {x y : Int32} (hd : decode mi.2.1 pc = .ok (.irem, 1)) (h0 : ¬ y = 0) (kk : RJ w R mi ce sl (pc + 1) lv (.int (x - x / y * y) :: st) n es F) : RJ w R mi ce sl pc lv (.int y :: .int x :: st) n es F :=
  fun p e s m args below meth c H locs ls f hl hh hv => lv_irem f.1 f.2.1 hd h0 (kk p e s m args below meth c H locs ls f hl hh hv)
theorem rj_ineg {x : Int32} (hd : decode mi.2.1 pc = .ok (.ineg, 1))  (kk : RJ w R mi ce sl (pc + 1) lv (.int (-x) :: st) n es F) : RJ w R mi ce sl pc lv (.int x :: st) n es F :=
  fun p e s m args below meth c H locs ls f hl hh hv => lv_ineg f.1 f.2.1 hd (kk p e s m args below meth c H locs ls f hl hh hv)
theorem rj_i2l {x : Int32} (hd : decode mi.2.1 pc = .ok (.i2l, 1))  (kk : RJ w R mi ce sl (pc + 1) lv (.long x.toInt64 :: st) n es F) : RJ w R mi ce sl pc lv (.int x :: st) n es F :=
  fun p e s m args below meth c H locs ls f hl hh hv => lv_i2l f.1 f.2.1 hd rfl (kk p e s m args below meth c H locs ls f hl hh hv)
theorem rj_i2b {x : Int32} (hd : decode mi.2.1 pc = .ok (.i2b, 1))  (kk : RJ w R mi ce sl (pc + 1) lv (.int x.toInt8.toInt32 :: st) n es F) : RJ w R mi ce sl pc lv (.int x :: st) n es F :=
  fun p e s m args below meth c H locs ls f hl hh hv => lv_i2b f.1 f.2.1 hd rfl (kk p e s m args below meth c H locs ls f hl hh hv)
theorem rj_i2s {x : Int32} (hd : decode mi.2.1 pc = .ok (.i2s, 1))  (kk : RJ w R mi ce sl (pc + 1) lv (.int x.toInt16.toInt32 :: st) n es F) : RJ w R mi ce sl pc lv (.int x :: st) n es F :=
  fun p e s m args below meth c H locs ls f hl hh hv => lv_i2s f.1 f.2.1 hd rfl (kk p e s m args below meth c H locs ls f hl hh hv)
theorem rj_i2c {x : Int32} (hd : decode mi.2.1 pc = .ok (.i2c, 1))  (kk : RJ w R mi ce sl (pc + 1) lv (.int (x.toUInt32 % 65536).toInt32 :: st) n es F) : RJ w R mi ce sl pc lv (.int x :: st) n es F :=
  fun p e s m args below meth c H locs ls f hl hh hv => lv_i2c f.1 f.2.1 hd rfl (kk p e s m args below meth c H locs ls f hl hh hv)
theorem rj_lcmp {x y : Int64} (hd : decode mi.2.1 pc = .ok (.lcmp, 1))  (kk : RJ w R mi ce sl (pc + 1) lv (.int (lg_cmp x y) :: st) n es F) : RJ w R mi ce sl pc lv (.long y :: .long x :: st) n es F :=
  fun p e s m args below meth c H locs ls f hl hh hv => W.lcmp f.1 f.2.1 hd (kk p e s m args below meth c H locs ls f hl hh hv)
theorem rj_dup {a : Value} (hd : decode mi.2.1 pc = .ok (.dup, 1)) (ha : a.category = 1) (kk : RJ w R mi ce sl (pc + 1) lv (a :: a :: st) n es F) : RJ w R mi ce sl pc lv (a :: st) n es F :=
  fun p e s m args below meth c H locs ls f hl hh hv => lv_dup f.1 f.2.1 hd (by rw [cv_cat]; exact ha) (kk p e s m args below meth c H locs ls f hl hh hv)
theorem rj_pop {a : Value} (hd : decode mi.2.1 pc = .ok (.pop, 1)) (ha : a.category = 1) (kk : RJ w R mi ce sl (pc + 1) lv (st) n es F) : RJ w R mi ce sl pc lv (a :: st) n es F :=
  fun p e s m args below meth c H locs ls f hl hh hv => lv_pop f.1 f.2.1 hd (by rw [cv_cat]; exact ha) (kk p e s m args below meth c H locs ls f hl hh hv)
theorem rj_dup2 {a b : Value} (hd : decode mi.2.1 pc = .ok (.dup2, 1)) (ha : a.category = 1) (hb : b.category = 1) (kk : RJ w R mi ce sl (pc + 1) lv (a :: b :: a :: b :: st) n es F) : RJ w R mi ce sl pc lv (a :: b :: st) n es F :=
  fun p e s m args below meth c H locs ls f hl hh hv => lv_dup2_11 f.1 f.2.1 hd (by rw [cv_cat]; exact ha) (by rw [cv_cat]; exact hb) (kk p e s m args below meth c H locs ls f hl hh hv)
theorem rj_dup_x1 {a b : Value} (hd : decode mi.2.1 pc = .ok (.dup_x1, 1)) (ha : a.category = 1) (hb : b.category = 1) (kk : RJ w R mi ce sl (pc + 1) lv (a :: b :: a :: st) n es F) : RJ w R mi ce sl pc lv (a :: b :: st) n es F :=
  fun p e s m args below meth c H locs ls f hl hh hv => lv_dup_x1 f.1 f.2.1 hd (by rw [cv_cat]; exact ha) (by rw [cv_cat]; exact hb) (kk p e s m args below meth c H locs ls f hl hh hv)
theorem rj_dup_x2 {a b d : Value} (hd : decode mi.2.1 pc = .ok (.dup_x2, 1)) (ha : a.category = 1) (hb : b.category = 1) (hd2 : d.category = 1) (kk : RJ w R mi ce sl (pc + 1) lv (a :: b :: d :: a :: st) n es F) : RJ w R mi ce sl pc lv (a :: b :: d :: st) n es F :=
  fun p e s m args below meth c H locs ls f hl hh hv => lv_dup_x2 f.1 f.2.1 hd (by rw [cv_cat]; exact ha) (by rw [cv_cat]; exact hb) (by rw [cv_cat]; exact hd2) (kk p e s m args below meth c H locs ls f hl hh hv)
theorem rj_if_eq {x : Int32} {off : Int} {tgt : Nat} (hd : decode mi.2.1 pc = .ok (.ifCond .eq off, 3)) (ht : (pc : Int) + off = (tgt : Int)) (kt : x = 0 → RJ w R mi ce sl tgt lv st n es F) (kf : ¬ (x = 0) → RJ w R mi ce sl (pc + 3) lv st n es F) : RJ w R mi ce sl pc lv (.int x :: st) n es F :=
  fun p e s m args below meth c H locs ls f hl hh hv => lv_if_eq f.1 f.2.1 hd ht (fun h => kt h p e s m args below meth c H locs ls f hl hh hv) (fun h => kf h p e s m args below meth c H locs ls f hl hh hv)
theorem rj_if_ne {x : Int32} {off : Int} {tgt : Nat} (hd : decode mi.2.1 pc = .ok (.ifCond .ne off, 3)) (ht : (pc : Int) + off = (tgt : Int)) (kt : ¬ x = 0 → RJ w R mi ce sl tgt lv st n es F) (kf : x = 0 → RJ w R mi ce sl (pc + 3) lv st n es F) : RJ w R mi ce sl pc lv (.int x :: st) n es F :=
  fun p e s m args below meth c H locs ls f hl hh hv => lv_if_ne f.1 f.2.1 hd ht (fun h => kt h p e s m args below meth c H locs ls f hl hh hv) (fun h => kf h p e s m args below meth c H locs ls f hl hh hv)
theorem rj_if_lt {x : Int32} {off : Int} {tgt : Nat} (hd : decode mi.2.1 pc = .ok (.ifCond .lt off, 3)) (ht : (pc : Int) + off = (tgt : Int)) (kt : x < 0 → RJ w R mi ce sl tgt lv st n es F) (kf : ¬ (x < 0) → RJ w R mi ce sl (pc + 3) lv st n es F) : RJ w R mi ce sl pc lv (.int x :: st) n es F :=
  fun p e s m args below meth c H locs ls f hl hh hv => lv_if_lt f.1 f.2.1 hd ht (fun h => kt h p e s m args below meth c H locs ls f hl hh hv) (fun h => kf h p e s m args below meth c H locs ls f hl hh hv)
theorem rj_if_ge {x : Int32} {off : Int} {tgt : Nat} (hd : decode mi.2.1 pc = .ok (.ifCond .ge off, 3)) (ht : (pc : Int) + off = (tgt : Int)) (kt : 0 ≤ x → RJ w R mi ce sl tgt lv st n es F) (kf : ¬ (0 ≤ x) → RJ w R mi ce sl (pc + 3) lv st n es F) : RJ w R mi ce sl pc lv (.int x :: st) n es F :=
  fun p e s m args below meth c H locs ls f hl hh hv => lv_if_ge f.1 f.2.1 hd ht (fun h => kt h p e s m args below meth c H locs ls f hl hh hv) (fun h => kf h p e s m args below meth c H locs ls f hl hh hv)
theorem rj_if_gt {x : Int32} {off : Int} {tgt : Nat} (hd : decode mi.2.1 pc = .ok (.ifCond .gt off, 3)) (ht : (pc : Int) + off = (tgt : Int)) (kt : 0 < x → RJ w R mi ce sl tgt lv st n es F) (kf : ¬ (0 < x) → RJ w R mi ce sl (pc + 3) lv st n es F) : RJ w R mi ce sl pc lv (.int x :: st) n es F :=
  fun p e s m args below meth c H locs ls f hl hh hv => lv_if_gt f.1 f.2.1 hd ht (fun h => kt h p e s m args below meth c H locs ls f hl hh hv) (fun h => kf h p e s m args below meth c H locs ls f hl hh hv)
theorem rj_if_le {x : Int32} {off : Int} {tgt : Nat} (hd : decode mi.2.1 pc = .ok (.ifCond .le off, 3)) (ht : (pc : Int) + off = (tgt : Int)) (kt : x ≤ 0 → RJ w R mi ce sl tgt lv st n es F) (kf : ¬ (x ≤ 0) → RJ w R mi ce sl (pc + 3) lv st n es F) : RJ w R mi ce sl pc lv (.int x :: st) n es F :=
  fun p e s m args below meth c H locs ls f hl hh hv => lv_if_le f.1 f.2.1 hd ht (fun h => kt h p e s m args below meth c H locs ls f hl hh hv) (fun h => kf h p e s m args below meth c H locs ls f hl hh hv)
theorem rj_icmp_eq {x y : Int32} {off : Int} {tgt : Nat} (hd : decode mi.2.1 pc = .ok (.if_icmp .eq off, 3)) (ht : (pc : Int) + off = (tgt : Int)) (kt : x = y → RJ w R mi ce sl tgt lv st n es F) (kf : ¬ (x = y) → RJ w R mi ce sl (pc + 3) lv st n es F) : RJ w R mi ce sl pc lv (.int y :: .int x :: st) n es F :=
  fun p e s m args below meth c H locs ls f hl hh hv => lv_icmp_eq f.1 f.2.1 hd ht (fun h => kt h p e s m args below meth c H locs ls f hl hh hv) (fun h => kf h p e s m args below meth c H locs ls f hl hh hv)
theorem rj_icmp_ne {x y : Int32} {off : Int} {tgt : Nat} (hd : decode mi.2.1 pc = .ok (.if_icmp .ne off, 3)) (ht : (pc : Int) + off = (tgt : Int)) (kt : ¬ x = y → RJ w R mi ce sl tgt lv st n es F) (kf : x = y → RJ w R mi ce sl (pc + 3) lv st n es F) : RJ w R mi ce sl pc lv (.int y :: .int x :: st) n es F :=
  fun p e s m args below meth c H locs ls f hl hh hv => lv_icmp_ne f.1 f.2.1 hd ht (fun h => kt h p e s m args below meth c H locs ls f hl hh hv) (fun h => kf h p e s m args below meth c H locs ls f hl hh hv)
theorem rj_icmp_lt {x y : Int32} {off : Int} {tgt : Nat} (hd : decode mi.2.1 pc = .ok (.if_icmp .lt off, 3)) (ht : (pc : Int) + off = (tgt : Int)) (kt : x < y → RJ w R mi ce sl tgt lv st n es F) (kf : ¬ (x < y) → RJ w R mi ce sl (pc + 3) lv st n es F) : RJ w R mi ce sl pc lv (.int y :: .int x :: st) n es F :=
  fun p e s m args below meth c H locs ls f hl hh hv => lv_icmp_lt f.1 f.2.1 hd ht (fun h => kt h p e s m args below meth c H locs ls f hl hh hv) (fun h => kf h p e s m args below meth c H locs ls f hl hh hv)
theorem rj_icmp_ge {x y : Int32} {off : Int} {tgt : Nat} (hd : decode mi.2.1 pc = .ok (.if_icmp .ge off, 3)) (ht : (pc : Int) + off = (tgt : Int)) (kt : y ≤ x → RJ w R mi ce sl tgt lv st n es F) (kf : ¬ (y ≤ x) → RJ w R mi ce sl (pc + 3) lv st n es F) : RJ w R mi ce sl pc lv (.int y :: .int x :: st) n es F :=
  fun p e s m args below meth c H locs ls f hl hh hv => lv_icmp_ge f.1 f.2.1 hd ht (fun h => kt h p e s m args below meth c H locs ls f hl hh hv) (fun h => kf h p e s m args below meth c H locs ls f hl hh hv)
theorem rj_icmp_gt {x y : Int32} {off : Int} {tgt : Nat} (hd : decode mi.2.1 pc = .ok (.if_icmp .gt off, 3)) (ht : (pc : Int) + off = (tgt : Int)) (kt : y < x → RJ w R mi ce sl tgt lv st n es F) (kf : ¬ (y < x) → RJ w R mi ce sl (pc + 3) lv st n es F) : RJ w R mi ce sl pc lv (.int y :: .int x :: st) n es F :=
  fun p e s m args below meth c H locs ls f hl hh hv => lv_icmp_gt f.1 f.2.1 hd ht (fun h => kt h p e s m args below meth c H locs ls f hl hh hv) (fun h => kf h p e s m args below meth c H locs ls f hl hh hv)
theorem rj_icmp_le {x y : Int32} {off : Int} {tgt : Nat} (hd : decode mi.2.1 pc = .ok (.if_icmp .le off, 3)) (ht : (pc : Int) + off = (tgt : Int)) (kt : x ≤ y → RJ w R mi ce sl tgt lv st n es F) (kf : ¬ (x ≤ y) → RJ w R mi ce sl (pc + 3) lv st n es F) : RJ w R mi ce sl pc lv (.int y :: .int x :: st) n es F :=
  fun p e s m args below meth c H locs ls f hl hh hv => lv_icmp_le f.1 f.2.1 hd ht (fun h => kt h p e s m args below meth c H locs ls f hl hh hv) (fun h => kf h p e s m args below meth c H locs ls f hl hh hv)
theorem rj_goto {off : Int} {tgt : Nat} (hd : decode mi.2.1 pc = .ok (.goto off, 3)) (ht : (pc : Int) + off = (tgt : Int)) (kk : RJ w R mi ce sl tgt lv st n es F) : RJ w R mi ce sl pc lv st n es F :=
  fun p e s m args below meth c H locs ls f hl hh hv => lv_goto f.1 f.2.1 hd ht (kk p e s m args below meth c H locs ls f hl hh hv)
theorem rj_tableOut {dflt lo hi : Int} {offs : Array Int} {len : Nat} {x : Int32} {tgt : Nat} (hd : decode mi.2.1 pc = .ok (.tableswitch dflt lo hi offs, len)) (h : x.toInt < lo ∨ hi < x.toInt) (ht : (pc : Int) + dflt = (tgt : Int)) (kk : RJ w R mi ce sl tgt lv st n es F) : RJ w R mi ce sl pc lv (.int x :: st) n es F :=
  fun p e s m args below meth c H locs ls f hl hh hv => lv_tableOut f.1 f.2.1 hd h ht (kk p e s m args below meth c H locs ls f hl hh hv)
theorem rj_tableIn {dflt lo hi : Int} {offs : Array Int} {len : Nat} {x : Int32} {off : Int} {tgt : Nat} (hd : decode mi.2.1 pc = .ok (.tableswitch dflt lo hi offs, len)) (h1 : ¬ x.toInt < lo) (h2 : ¬ hi < x.toInt) (ho : offs[(x.toInt - lo).toNat]? = some off) (ht : (pc : Int) + off = (tgt : Int)) (kk : RJ w R mi ce sl tgt lv st n es F) : RJ w R mi ce sl pc lv (.int x :: st) n es F :=
  fun p e s m args below meth c H locs ls f hl hh hv => lv_tableIn f.1 f.2.1 hd h1 h2 ho ht (kk p e s m args below meth c H locs ls f hl hh hv)
theorem rj_lookup {dflt : Int} {ps : Array (Int × Int)} {len : Nat} {x : Int32} {off : Int} {tgt : Nat} (hd : decode mi.2.1 pc = .ok (.lookupswitch dflt ps, len)) (hp : (ps.toList.zip (ps.toList.drop 1)).all (fun (a, next) => a.1 < next.1) = true) (ho : Op.lookupswitch.offset ps.toList dflt x.toInt = off) (ht : (pc : Int) + off = (tgt : Int)) (kk : RJ w R mi ce sl tgt lv st n es F) : RJ w R mi ce sl pc lv (.int x :: st) n es F :=
  fun p e s m args below meth c H locs ls f hl hh hv => lv_lookup f.1 f.2.1 hd hp ho ht (kk p e s m args below meth c H locs ls f hl hh hv)
theorem rj_ldc {own : String} {idx : Nat} {v : Int32} (ho : mi.1.cls = own) (hk : Cond.constant own idx v ∈ tG) (hd : decode mi.2.1 pc = .ok (.ldc idx, 2)) (kk : RJ w R mi ce sl (pc + 2) lv (.int v :: st) n es F) : RJ w R mi ce sl pc lv st n es F :=
  fun p e s m args below meth c H locs ls f hl hh hv => lv_ldc f.1 f.2.1 (ho ▸ f.2.2.2.2.1) (f.2.2.2.2.2.2.2.1 _ hk) hd (kk p e s m args below meth c H locs ls f hl hh hv)
theorem rj_ldcw {own : String} {idx : Nat} {v : Int32} (ho : mi.1.cls = own) (hk : Cond.constant own idx v ∈ tG) (hd : decode mi.2.1 pc = .ok (.ldc_w idx, 3)) (kk : RJ w R mi ce sl (pc + 3) lv (.int v :: st) n es F) : RJ w R mi ce sl pc lv st n es F :=
  fun p e s m args below meth c H locs ls f hl hh hv => lv_ldcw f.1 f.2.1 (ho ▸ f.2.2.2.2.1) (f.2.2.2.2.2.2.2.1 _ hk) hd (kk p e s m args below meth c H locs ls f hl hh hv)
theorem rj_ldc2 {own : String} {idx : Nat} {v : Int64} (ho : mi.1.cls = own) (hk : Cond.constantLong own idx v ∈ tG) (hd : decode mi.2.1 pc = .ok (.ldc2_w idx, 3)) (kk : RJ w R mi ce sl (pc + 3) lv (.long v :: st) n es F) : RJ w R mi ce sl pc lv st n es F :=
  fun p e s m args below meth c H locs ls f hl hh hv => lv_ldc2 f.1 f.2.1 (ho ▸ f.2.2.2.2.1) (f.2.2.2.2.2.2.2.1 _ hk) hd (kk p e s m args below meth c H locs ls f hl hh hv)
end RULES
end
section
/-! ===== fields, arrays, calls, returns: by cells ===== -/
/-- class number ci of the world: its name, fields, and that the tables have them -/
def CL (ci : Nat) (C : String) (T : u_T) (N : Nat) : Prop := vwCl[ci]? = some (C, T, N) ∧ (∀ x ∈ u_ws C T N, x ∈ tG) ∧ (∃ ty0 : Nat → FieldType, ∀ k, k < N → parseFieldDescriptor (T k).2.2.1 = some (ty0 k)) ∧ ∀ a, a < N → ∀ b, b < N → a ≠ b → (T a).2.1 ≠ (T b).2.1
/-- a field's link: in class own, at idx, field j of class ci -/
def FL (own : String) (idx ci j : Nat) : Prop := ∃ C T N, CL ci C T N ∧ j < N ∧ Cond.fieldLink own idx (T j).1 (T j).2.1 (T j).2.2.1 ∈ tG
def FT (ci j : Nat) (ty : FieldType) (fin : Bool) (own : String) : Prop := ∀ C T N, vwCl[ci]? = some (C, T, N) → (T j).2.2.2 = fin ∧ parseFieldDescriptor (T j).2.2.1 = some ty ∧ (fin = true → (T j).1 = own)
theorem eup_at {w : Wd} {H H1 : Heap} {n k : Nat} {es : Ent} {x : va_E} (h : HH w H n es) (z : H1.size = H.size) (oq : ∀ q : Nat, q ≠ wB w + k → H1[q]? = H[q]?) (hx : va_at (wD w) vwCl (wB w + k, cvE w x) H1) : HH w H1 n (va_up es k x) := by
  obtain ⟨h0, h1, h2, h3⟩ := h
  refine ⟨h0, z.trans h1, fun q hq => (oq q (by omega)).trans (h2 q hq), fun j hj => ?_⟩
  by_cases hjk : j = k
  · subst hjk
    have e : va_up es j x j = x := by simp [va_up]
    rw [e]
    exact hx
  · have e : va_up es k x j = es j := by simp [va_up, hjk]
    rw [e]
    exact (h3 j hj).kept (oq (wB w + j) (by omega))
theorem new_at {w : Wd} {H H1 : Heap} {n : Nat} {es : Ent} {x : va_E} (h : HH w H n es) (hn : n < 1000) (z : H1.size = H.size + 1) (oq : ∀ q : Nat, q < H.size → H1[q]? = H[q]?) (hx : va_at (wD w) vwCl (wB w + n, cvE w x) H1) : HH w H1 (n + 1) (va_up es n x) := by
  obtain ⟨h0, h1, h2, h3⟩ := h
  refine ⟨by omega, by omega, fun q hq => (oq q (by omega)).trans (h2 q hq), fun j hj => ?_⟩
  by_cases hjk : j = n
  · subst hjk
    have e : va_up es j x j = x := by simp [va_up]
    rw [e]
    exact hx
  · have e : va_up es n x j = es j := by simp [va_up, hjk]
    rw [e]
    exact (h3 j (by omega)).kept (oq (wB w + j) (by omega))
theorem cvV {w : Wd} {fs : List Value} {j : Nat} {v : Value} (h : fs[j]? = some v) : vp_V (fs.map (cv w)) j = cv w v := by
  unfold vp_V
  rw [List.getD_eq_getElem?_getD, List.getElem?_map, h]
  rfl
theorem iI {w : Wd} {s : State} (k : KS w s) : ArrOfT s (wI w) .int := (k.1.2 0 (wI w, .int) rfl).1
theorem iIn {w : Wd} {s : State} (k : KS w s) : s.vm.findClass ("[" ++ (FieldType.int).toString) = some (wI w) := (k.1.2 0 (wI w, .int) rfl).2
theorem iR {w : Wd} {s : State} (k : KS w s) : ArrOfT s (wR w) (.object RX6) := (k.1.2 1 (wR w, .object RX6) rfl).1
section RULES2
variable {w : Wd} {R : Room} {mi : MI} {ce sl pc : Nat} {lv lv' : List (Nat × Value)} {st : List Value} {n : Nat} {es : Ent} {F : Array Value → State → List Frame → State → Prop}
theorem rj_get {own : String} {idx ci j k : Nat} {fs : List Value} {v : Value} (hF : FL own idx ci j) (ho : mi.1.cls = own) (hd : decode mi.2.1 pc = .ok (.getfield idx, 3)) (hk : k < n) (he : es k = .inr (ci, fs)) (hv : fs[j]? = some v) (kk : RJ w R mi ce sl (pc + 3) lv (v :: st) n es F) : RJ w R mi ce sl pc lv (.ref k :: st) n es F := by
  intro p e s m args below meth c H locs ls f hl hh hlv
  obtain ⟨C, T, N, ⟨hc, hin, -, -⟩, hj, hlink⟩ := hF
  have hk1 : k < 1000 := Nat.lt_of_lt_of_le hk hh.1
  have hP := hh.2.2.2 k hk
  rw [he] at hP
  have g := kk p e s m args below meth c H locs ls f hl hh hlv
  show W p (wl w) e R s m args below meth c H locs ce sl (F args s below) (F0 m pc ls (cv w (.ref k) :: st.map (cv w)))
  rw [cv_lo w hk1]
  exact va_get (D := wD w) (cl := vwCl) (ws := [(wB w + k, .inr (ci, fs.map (cv w)))]) f.1 f.2.1 f.2.2.2.2.2.2.2.1 hin (ho ▸ f.2.2.2.2.1) f.2.2.2.2.2.2.2.2.1 (fun i q hq => by
    match i, hq with
    | 0, hq => cases hq; exact hP) 0 rfl hc j hj (f.2.2.2.2.2.2.2.1 _ hlink) (fun _ h9 => h9) (by rw [List.getElem?_map, hv]; rfl) hd g
theorem put_core {own C : String} {T : u_T} {N idx ci j k : Nat} {fs : List Value} {v : Value} {ty : FieldType} {p : Program} {e : Env} {s : State} {m : MethodId} {args : Array Value} {below : List Frame} {meth : Method} {c : Code} {H : Heap} {locs : List Loc} {ls : Array Slot} (f : FX w mi p s m args meth c) (hl : ∀ q ∈ locs, wB w ≤ q.base) (hh : HH w H n es)
    (hCL : CL ci C T N) (hj : j < N) (hlink : Cond.fieldLink own idx (T j).1 (T j).2.1 (T j).2.2.1 ∈ tG) (ho : mi.1.cls = own) (hfin : (T j).2.2.2 = false ∨ ((T j).2.2.2 = true ∧ meth.name = "<init>" ∧ (T j).1 = own)) (hd : parseFieldDescriptor (T j).2.2.1 = some ty) (hn : narrow ty (cv w v) = cv w v) (hfit : fits ty (cv w v) = true) (hk : k < n) (he : es k = .inr (ci, fs)) (hjf : j < fs.length) (hdg : decode mi.2.1 pc = .ok (.putfield idx, 3))
    (kk : ∀ (H1 : Heap) (locs1 : List Loc), (∀ q ∈ locs1, wB w ≤ q.base) → HH w H1 n (va_up es k (.inr (ci, fs.set j v))) → W p (wl w) e R s m args below meth c H1 locs1 ce sl (F args s below) (F0 m (pc + 3) ls (st.map (cv w)))) :
    W p (wl w) e R s m args below meth c H locs ce sl (F args s below) (F0 m pc ls (cv w v :: .ref (wB w + k) :: st.map (cv w))) := by
  obtain ⟨hc, hin, ⟨ty0, hty⟩, hnm⟩ := hCL
  have hts := f.2.2.2.2.2.2.2.1
  have hown : s.vm.findClass own = some m.cls := ho ▸ f.2.2.2.2.1
  have hK := f.2.2.2.2.2.2.2.2.1
  have hap := va_apart (D := wD w) (cl := vwCl) (own := own) hts hin ty0 hty hnm hK hc
  have hP := hh.2.2.2 k hk
  rw [he] at hP
  obtain ⟨r, h1, cell, q1, q2, q3, q4⟩ := hP
  have hr : r = (C, T, N) := Option.some.inj (h1.symm.trans hc)
  subst hr
  obtain ⟨hS, hfc, kC, hkC, hkind⟩ := hK.1 ci _ hc
  obtain ⟨cf, kf, fi, fd, hi, hsl⟩ := hS j hj
  have hlay := hts _ (hin _ (u_in_lay hj))
  have hst := (u_facts hfc hkC (u_lays hts hin hj) hi).1
  have fin : ∀ (H' : Heap), H'[wB w + k]? = some (cell.setSlot fd.slot (cv w v)) → H'.size = H.size → (∀ q : Nat, q ≠ wB w + k → H'[q]? = H[q]?) → W p (wl w) e R s m args below meth c H' (locs ++ [⟨wB w + k, fd.slot⟩]) ce sl (F args s below) (F0 m (pc + 3) ls (st.map (cv w))) := by
    intro H' e1 e2 e3
    refine kk H' _ (fun q hq => ?_) (eup_at hh e2 e3 ?_)
    · rcases List.mem_append.mp hq with h | h
      · exact hl q h
      · rw [List.mem_singleton.mp h]; exact Nat.le_add_right _ _
    · rw [hsl] at e1
      refine ⟨_, hc, t_OB.to (V := updV (vp_V (fs.map (cv w))) j (cv w v)) ⟨_, e1, q2, q3, t_set q4 hap hj (cv w v)⟩ (fun i _ => ?_)⟩
      rw [vp_updV_set (by simpa using hjf)]
      rw [List.map_set]
  rcases hfin with hfin | ⟨hfin, hin2, hdecl⟩
  · unfold u_lay at hlay
    rw [if_neg (by rw [hfin]; decide)] at hlay
    have h6 := u_store hfc hkC hkind hlay hi hd hn hfit
    exact W.putK f.1 f.2.1 (f := fd) ⟨hown, hts _ hlink, ⟨_, _, _, hi⟩, hst⟩ (by rw [q2]; exact h6) q1 q3 (by rw [hsl]; exact k2_hasslot (q4 j hj)) rfl rfl hdg fin
  · unfold u_lay at hlay
    rw [if_pos hfin] at hlay
    have hcf : m.cls = cf := by
      obtain ⟨_, _, c', _, _, _, -, -, hf', -, -, -, hown2, -⟩ := Cond.laysFinal_spec hlay
      have e1 : c' = cf := by have := hi.symm.trans hf'; simp at this; exact this.1.symm
      rw [hdecl] at hown2
      rw [← e1]; exact Option.some.inj (hown.symm.trans hown2)
    have h6 := u_fits hfc hkC hkind (Or.inr hlay) hi hd hn hfit
    exact W.putFinK f.1 f.2.1 hown (hts _ hlink) hi hst hcf hin2 (by rw [q2]; exact h6) q1 q3 (by rw [hsl]; exact k2_hasslot (q4 j hj)) rfl rfl hdg fin
theorem rj_put {own : String} {idx ci j k : Nat} {fs : List Value} {v : Value} {ty : FieldType} (hF : FL own idx ci j) (hT : FT ci j ty false own) (ho : mi.1.cls = own) (hd : decode mi.2.1 pc = .ok (.putfield idx, 3)) (hn : narrow ty (cv w v) = cv w v) (hfit : fits ty (cv w v) = true) (hk : k < n) (he : es k = .inr (ci, fs)) (hj : j < fs.length) (kk : ∀ es', es' = va_up es k (.inr (ci, fs.set j v)) → RJ w R mi ce sl (pc + 3) lv st n es' F) : RJ w R mi ce sl pc lv (v :: .ref k :: st) n es F := by
  intro p e s m args below meth c H locs ls f hl hh hlv
  obtain ⟨C, T, N, hCL, hjN, hlink⟩ := hF
  obtain ⟨t1, t2, -⟩ := hT C T N hCL.1
  have hk1 : k < 1000 := Nat.lt_of_lt_of_le hk hh.1
  show W p (wl w) e R s m args below meth c H locs ce sl (F args s below) (F0 m pc ls (cv w v :: cv w (.ref k) :: st.map (cv w)))
  rw [cv_lo w hk1]
  exact put_core f hl hh hCL hjN hlink ho (Or.inl t1) t2 hn hfit hk he hj hd (fun H1 locs1 hl1 hh1 => kk _ rfl p e s m args below meth c H1 locs1 ls f hl1 hh1 hlv)
theorem rj_putF {own : String} {idx ci j k : Nat} {fs : List Value} {v : Value} {ty : FieldType} (hF : FL own idx ci j) (hT : FT ci j ty true own) (ho : mi.1.cls = own) (hi : mi.1.name = "<init>") (hd : decode mi.2.1 pc = .ok (.putfield idx, 3)) (hn : narrow ty (cv w v) = cv w v) (hfit : fits ty (cv w v) = true) (hk : k < n) (he : es k = .inr (ci, fs)) (hj : j < fs.length) (kk : ∀ es', es' = va_up es k (.inr (ci, fs.set j v)) → RJ w R mi ce sl (pc + 3) lv st n es' F) : RJ w R mi ce sl pc lv (v :: .ref k :: st) n es F := by
  intro p e s m args below meth c H locs ls f hl hh hlv
  obtain ⟨C, T, N, hCL, hjN, hlink⟩ := hF
  obtain ⟨t1, t2, t3⟩ := hT C T N hCL.1
  have hk1 : k < 1000 := Nat.lt_of_lt_of_le hk hh.1
  show W p (wl w) e R s m args below meth c H locs ce sl (F args s below) (F0 m pc ls (cv w v :: cv w (.ref k) :: st.map (cv w)))
  rw [cv_lo w hk1]
  exact put_core f hl hh hCL hjN hlink ho (Or.inr ⟨t1, f.2.2.2.2.2.2.1.trans hi, t3 rfl⟩) t2 hn hfit hk he hj hd (fun H1 locs1 hl1 hh1 => kk _ rfl p e s m args below meth c H1 locs1 ls f hl1 hh1 hlv)
theorem rj_iald {k len : Nat} {g : Nat → Int32} {i : Int32} (hd : decode mi.2.1 pc = .ok (.iaload, 1)) (hk : k < n) (he : es k = .inl (0, len, .inl g)) (hin : vp_in i len) (kk : RJ w R mi ce sl (pc + 1) lv (.int (g i.toNatClampNeg) :: st) n es F) : RJ w R mi ce sl pc lv (.int i :: .ref k :: st) n es F := by
  intro p e s m args below meth c H locs ls f hl hh hlv
  have hk1 : k < 1000 := Nat.lt_of_lt_of_le hk hh.1
  have hP := hh.2.2.2 k hk
  rw [he] at hP
  have hc : H[wB w + k]? = some (arrV (wI w) len (fun j => .int (g j))) := hP
  have hlt : i.toNatClampNeg < len := Nat.not_le.mp fun q => hin (Or.inr q)
  show W p (wl w) e R s m args below meth c H locs ce sl (F args s below) (F0 m pc ls (.int i :: cv w (.ref k) :: st.map (cv w)))
  rw [cv_lo w hk1]
  exact W.iald (v := .int (g i.toNatClampNeg)) f.1 f.2.1 hc (iI f.2.2.2.2.2.2.2.2 len _) (fun q => by cases q) (by rw [arrV_size]; exact hin) (by rw [arrV_read _ _ hlt]) rfl rfl hd (kk p e s m args below meth c H locs ls f hl hh hlv)
theorem rj_iast {k len : Nat} {g : Nat → Int32} {i x : Int32} (hd : decode mi.2.1 pc = .ok (.iastore, 1)) (hk : k < n) (he : es k = .inl (0, len, .inl g)) (hin : vp_in i len) (kk : ∀ es', es' = va_up es k (.inl (0, len, .inl (upd g i.toNatClampNeg x))) → RJ w R mi ce sl (pc + 1) lv st n es' F) : RJ w R mi ce sl pc lv (.int x :: .int i :: .ref k :: st) n es F := by
  intro p e s m args below meth c H locs ls f hl hh hlv
  have hk1 : k < 1000 := Nat.lt_of_lt_of_le hk hh.1
  have hP := hh.2.2.2 k hk
  rw [he] at hP
  have hc : H[wB w + k]? = some (arrV (wI w) len (fun j => .int (g j))) := hP
  show W p (wl w) e R s m args below meth c H locs ce sl (F args s below) (F0 m pc ls (.int x :: .int i :: cv w (.ref k) :: st.map (cv w)))
  rw [cv_lo w hk1]
  refine W.iast f.1 f.2.1 hc (iI f.2.2.2.2.2.2.2.2 len _) (fun q => by cases q) (by rw [arrV_size]; exact hin) rfl rfl hd fun H1 e1 z oq => ?_
  refine kk _ rfl p e s m args below meth c H1 _ ls f (fun q hq => ?_) (eup_at hh z oq ?_) hlv
  · rcases List.mem_append.mp hq with h | h
    · exact hl q h
    · rw [List.mem_singleton.mp h]; exact Nat.le_add_right _ _
  · show H1[wB w + k]? = some (arrV (wI w) len (fun j => .int (upd g i.toNatClampNeg x j)))
    rw [e1, arrV_store]
    congr 2
    funext q
    by_cases hq : q = i.toNatClampNeg <;> simp [updV, upd, hq]
theorem rj_alen {k len : Nat} {g : Nat → Int32} {v : Int32} (hd : decode mi.2.1 pc = .ok (.arraylength, 1)) (hk : k < n) (he : es k = .inl (0, len, .inl g)) (hvv : Int32.ofNat len = v) (kk : RJ w R mi ce sl (pc + 1) lv (.int v :: st) n es F) : RJ w R mi ce sl pc lv (.ref k :: st) n es F := by
  intro p e s m args below meth c H locs ls f hl hh hlv
  have hk1 : k < 1000 := Nat.lt_of_lt_of_le hk hh.1
  have hP := hh.2.2.2 k hk
  rw [he] at hP
  have hc : H[wB w + k]? = some (arrV (wI w) len (fun j => .int (g j))) := hP
  show W p (wl w) e R s m args below meth c H locs ce sl (F args s below) (F0 m pc ls (cv w (.ref k) :: st.map (cv w)))
  rw [cv_lo w hk1]
  exact W.alen (n := v) f.1 f.2.1 hc (iI f.2.2.2.2.2.2.2.2 len _) (by rw [arrV_size]; exact hvv) rfl rfl hd (kk p e s m args below meth c H locs ls f hl hh hlv)
theorem rj_aald {k len : Nat} {g : Nat → Option Nat} {i : Int32} {v : Nat} (hd : decode mi.2.1 pc = .ok (.aaload, 1)) (hk : k < n) (he : es k = .inl (1, len, .inr (.inr (.inr (.inr g))))) (hin : vp_in i len) (hv : g i.toNatClampNeg = some v) (hv1 : v < 1000) (kk : RJ w R mi ce sl (pc + 1) lv (.ref v :: st) n es F) : RJ w R mi ce sl pc lv (.int i :: .ref k :: st) n es F := by
  intro p e s m args below meth c H locs ls f hl hh hlv
  have hk1 : k < 1000 := Nat.lt_of_lt_of_le hk hh.1
  have hP := hh.2.2.2 k hk
  rw [he] at hP
  have hc : H[wB w + k]? = some (arrV (wR w) len (fun j => va_rf ((g j).map (fun k => wB w + k)))) := hP
  have hlt : i.toNatClampNeg < len := Nat.not_le.mp fun q => hin (Or.inr q)
  show W p (wl w) e R s m args below meth c H locs ce sl (F args s below) (F0 m pc ls (.int i :: cv w (.ref k) :: st.map (cv w)))
  rw [cv_lo w hk1]
  have g1 := kk p e s m args below meth c H locs ls f hl hh hlv
  have e9 : (Value.ref v :: st).map (cv w) = .ref (wB w + v) :: st.map (cv w) := by rw [List.map_cons, cv_lo w hv1]
  rw [e9] at g1
  exact W.aald (v := .ref (wB w + v)) (ty := .object RX6) f.1 f.2.1 hc (iR f.2.2.2.2.2.2.2.2 len _) rfl (fun q => by cases q) (by rw [arrV_size]; exact hin) (by rw [arrV_read _ _ hlt, hv]; rfl) rfl rfl hd g1
theorem rj_iret {h mc ms : Nat} {Q : Option Value → Nat → Ent → Prop} {x : Int32} {ty : FieldType} (hd : decode mi.2.1 pc = .ok (.ireturn, 1)) (hr : mi.2.2.2 = some ty) (hn : narrow ty (.int x) = .int x) (hce : ce ≤ mc) (hsl : sl ≤ ms) (hq : Q (some (.int x)) n es) : RJ w (rmk h mc ms) mi ce sl pc lv [.int x] n es (FM w mc ms Q) :=
  fun p e s m args below meth c H locs ls f hl hh hlv => W.widen hce hsl (W.zret (Qc := QC w Q) f.1 f.2.1 (f.2.2.1.trans hr) hn (fun t ht hW => ⟨some (.int x), n, es, rfl, by rw [ht]; exact hh, hq⟩) hl hd f.2.2.2.2.2.1)
theorem rj_vret {h mc ms : Nat} {Q : Option Value → Nat → Ent → Prop} (hd : decode mi.2.1 pc = .ok (.return_, 1)) (hr : mi.2.2.2 = none) (hce : ce ≤ mc) (hsl : sl ≤ ms) (hq : Q none n es) : RJ w (rmk h mc ms) mi ce sl pc lv [] n es (FM w mc ms Q) :=
  fun p e s m args below meth c H locs ls f hl hh hlv => W.widen hce hsl (W.vret (Qc := QC w Q) f.1 f.2.1 (f.2.2.1.trans hr) (fun t ht hW => ⟨none, n, es, rfl, by rw [ht]; exact hh, hq⟩) hl hd f.2.2.2.2.2.1)
theorem rj_aret {h mc ms : Nat} {Q : Option Value → Nat → Ent → Prop} {k : Nat} {C : String} (hd : decode mi.2.1 pc = .ok (.areturn, 1)) (hr : mi.2.2.2 = some (.object C)) (hce : ce ≤ mc) (hsl : sl ≤ ms) (hq : Q (some (.ref k)) n es) : RJ w (rmk h mc ms) mi ce sl pc lv [.ref k] n es (FM w mc ms Q) :=
  fun p e s m args below meth c H locs ls f hl hh hlv => W.widen hce hsl (W.aret (Qc := QC w Q) (v := cv w (.ref k)) f.1 f.2.1 (f.2.2.1.trans hr) (Or.inl ⟨C, rfl⟩) (Or.inr ⟨_, rfl⟩) (fun t ht hW => ⟨some (.ref k), n, es, rfl, by rw [ht]; exact hh, hq⟩) hl hd f.2.2.2.2.2.1)
end RULES2
end
section
/-! ===== calls ===== -/
/-- what the tables say of a method that is called: its code, its class, its parameters -/
def MB (mi : MI) (np : Nat) : Prop := Cond.code mi.1 mi.2.1 mi.2.2.1 mi.2.2.2 ∈ tG ∧ Cond.initialized mi.1.cls ∈ tG ∧ mi.1.cls ≠ "java/lang/invoke/MethodHandle" ∧ mi.1.cls ≠ "java/lang/invoke/VarHandle" ∧ (parseMethodDescriptor mi.1.desc).map (fun d => d.parameters.length) = some np
def MV (mi : MI) (np : Nat) : Prop := MB mi np ∧ Cond.instanceMethod mi.1 ∈ tG ∧ Cond.selects mi.1.cls mi.1 mi.1 ∈ tG
def MT (mi : MI) (np : Nat) : Prop := MB mi np ∧ Cond.static mi.1 ∈ tG
def MC (mi : MI) (np : Nat) : Prop := MB mi np ∧ Cond.instanceMethod mi.1 ∈ tG ∧ mi.1.name = "<init>" ∧ mi.2.2.2 = none
theorem goodC {mi : MI} (h : Cond.code mi.1 mi.2.1 mi.2.2.1 mi.2.2.2 ∈ tG) : GoodIn tG (Cond.code mi.1 mi.2.1 mi.2.2.1 mi.2.2.2 :: tG) := fun x hx => (List.mem_cons.mp hx).elim (fun e => e ▸ tG_good _ h) (fun h => tG_good x h)
theorem st_r (w : Wd) (r : Option Value) (rest : List Value) : (r.map (cv w)).toList ++ rest.map (cv w) = (r.toList ++ rest).map (cv w) := by cases r <;> simp
theorem as_rev (w : Wd) (As : List Value) : (As.map (cv w)).reverse = As.reverse.map (cv w) := by rw [List.map_reverse]
theorem co_blind {w : Wd} {as : List Value} {n : Nat} {es : Ent} : FrameBlind (fun a U => a = (as.map (cv w)).toArray ∧ KS w U ∧ HH w U.heap n es) := fun a U g mk h => ⟨h.1, KS.same (s := U) (U := U.calling g mk a) rfl h.2.1, h.2.2⟩
section RULES3
variable {w : Wd} {R : Room} {mi : MI} {ce sl pc : Nat} {lv lv' : List (Nat × Value)} {st : List Value} {n : Nat} {es : Ent} {F : Array Value → State → List Frame → State → Prop}
theorem run_end {p : Program} {e : Env} {s : State} {m : MethodId} {args : Array Value} {below : List Frame} {meth : Method} {c : Code} {H : Heap} {locs : List Loc} {ls : Array Slot} {mc ms : Nat} {Q : Option Value → Nat → Ent → Prop} {st0 rest : List Value} {a : Array Value}
    (hr : va_Run p (wl w) e R s m args below meth c H locs ce sl mc ms (F0 m pc ls st0) (rest.map (cv w)) (QC w Q a) (wA w)) (f : FX w mi p s m args meth c) (hl : ∀ q ∈ locs, wB w ≤ q.base) (hlv : lv_has ls mi.2.2.1 (lv.map (fun q => (q.1, cv w q.2))))
    (kk : ∀ r n' es', Q r n' es' → RJ w R mi (ce + mc) (sl + ms) (pc + 3) lv (r.toList ++ rest) n' es' F) : W p (wl w) e R s m args below meth c H locs ce sl (F args s below) (F0 m pc ls st0) := by
  intro T hT X
  obtain ⟨v, st₀, t, T', L, h0, X', hL, e1, e2, ⟨r, n', es', hrr, hh', hq⟩, stp⟩ := hr T hT X
  cases hrr
  obtain ⟨t2, a1, b1⟩ := kk r n' es' hq p e s m args below meth c T'.heap (locs ++ L) ls f (fun q hq => (List.mem_append.mp hq).elim (hl q) (hL q)) (by rw [e1]; exact hh') hlv T' rfl X'
  refine ⟨t2, stp t2 ?_, b1⟩
  rw [st_r]
  exact a1
theorem rj_callV {own C : String} {T : u_T} {N idx k h : Nat} {mi2 : MI} {As rest fs : List Value} {ci np mc ms : Nat} {Q : Option Value → Nat → Ent → Prop} (ho : mi.1.cls = own) (hl : Cond.methodLink own idx mi2.1 ∈ tG) (hm : MV mi2 np) (hd : decode mi.2.1 pc = .ok (.invokevirtual idx, 3)) (hk : k < n) (he : es k = .inr (ci, fs)) (hc : vwCl[ci]? = some (C, T, N)) (hC : mi2.1.cls = C) (hst : st = As.reverse ++ .ref k :: rest) (hn : As.length = np) (hw : (rest.map fun v => v.category).sum ≤ 8)
    (hR : h + 1 ≤ R.frames ∧ 8 + (mi2.2.2.1 + 11) + 39 * h ≤ R.locals) (hf : ce + mc ≤ R.cells ∧ sl + ms ≤ R.slots) (hco : CO w h mi2 mc ms (.ref k :: As) n es Q) (kk : ∀ r n' es', Q r n' es' → RJ w R mi (ce + mc) (sl + ms) (pc + 3) lv (r.toList ++ rest) n' es' F) : RJ w R mi ce sl pc lv st n es F := by
  intro p e s m args below meth c H locs ls f hlc hh hlv
  subst hst
  obtain ⟨⟨m1, m2, m3, m4, m5⟩, m6, m7⟩ := hm
  have hts := f.2.2.2.2.2.2.2.1
  have hk1 : k < 1000 := Nat.lt_of_lt_of_le hk hh.1
  have cw : CallW R s args own mi2.1.cls idx mi2.1 mi2.2.1 mi2.2.2.1 mi2.2.2.2 (Cond.code mi2.1 mi2.2.1 mi2.2.2.1 mi2.2.2.2 :: tG) (rmk h mc ms) mc ms np := ⟨callB_of np hts (goodC m1) rfl rfl rfl (hts _ m2) (hts _ hl) ⟨m3, m4, m5⟩ hR, hts _ m6, hts _ m7⟩
  have hP := hh.2.2.2 k hk
  rw [he] at hP
  obtain ⟨r, h1, cell, q1, q2, q3, -⟩ := hP
  have hr : r = (C, T, N) := Option.some.inj (h1.symm.trans hc)
  subst hr
  have hfc := (f.2.2.2.2.2.2.2.2.1.1 ci _ hc).2.1
  have hpre : PreV s H mi2.1.cls (wB w + k) (fun a U => a = ((Value.ref k :: As).map (cv w)).toArray ∧ KS w U ∧ HH w U.heap n es) (As.map (cv w)) := by
    refine ⟨co_blind, ⟨cell, q1, by rw [q3]; rfl, by rw [hC, q2]; exact hfc⟩, fun U hU hW => ⟨?_, KS.warm hW f.2.2.2.2.2.2.2.2, by rw [hU]; exact hh⟩⟩
    rw [List.map_cons, cv_lo w hk1]
  refine run_end (va_runV (g := F0 m pc ls ((As.reverse ++ .ref k :: rest).map (cv w))) (As := As.map (cv w)) (rest := rest.map (cv w)) ⟨f.1, f.2.1, f.2.2.2.1, ho ▸ f.2.2.2.2.1, hts⟩ hco cw hpre rfl (by simpa using hn) hlv.1 ?_ ?_ hd hf) f hlc hlv kk
  · show (As.reverse ++ .ref k :: rest).map (cv w) = _
    rw [List.map_append, List.map_cons, as_rev, cv_lo w hk1]
  · show 2 * 0 + _ ≤ 8
    rw [cv_cats]
    omega
theorem preS {s : State} {H : Heap} {as : List Value} (k : KS w s) (hh : HH w H n es) : PreS s H (fun a U => a = (as.map (cv w)).toArray ∧ KS w U ∧ HH w U.heap n es) (as.map (cv w)) :=
  ⟨co_blind, fun U hU hW => ⟨rfl, KS.warm hW k, by rw [hU]; exact hh⟩⟩
theorem rj_callS {own : String} {idx h : Nat} {mi2 : MI} {As rest : List Value} {np mc ms : Nat} {Q : Option Value → Nat → Ent → Prop} (ho : mi.1.cls = own) (hl : Cond.methodLink own idx mi2.1 ∈ tG) (hm : MT mi2 np) (hd : decode mi.2.1 pc = .ok (.invokestatic idx, 3)) (hst : st = As.reverse ++ rest) (hn : As.length = np) (hw : (rest.map fun v => v.category).sum ≤ 8)
    (hR : h + 1 ≤ R.frames ∧ 8 + (mi2.2.2.1 + 11) + 39 * h ≤ R.locals) (hf : ce + mc ≤ R.cells ∧ sl + ms ≤ R.slots) (hco : CO w h mi2 mc ms As n es Q) (kk : ∀ r n' es', Q r n' es' → RJ w R mi (ce + mc) (sl + ms) (pc + 3) lv (r.toList ++ rest) n' es' F) : RJ w R mi ce sl pc lv st n es F := by
  intro p e s m args below meth c H locs ls f hlc hh hlv
  subst hst
  obtain ⟨⟨m1, m2, m3, m4, m5⟩, m6⟩ := hm
  have hts := f.2.2.2.2.2.2.2.1
  refine run_end (va_runS (g := F0 m pc ls ((As.reverse ++ rest).map (cv w))) (As := As.map (cv w)) (rest := rest.map (cv w)) ⟨f.1, f.2.1, f.2.2.2.1, ho ▸ f.2.2.2.2.1, hts⟩ hco ⟨callB_of np hts (goodC m1) rfl rfl rfl (hts _ m2) (hts _ hl) ⟨m3, m4, m5⟩ hR, hts _ m6⟩ (preS f.2.2.2.2.2.2.2.2 hh) rfl (by simpa using hn) hlv.1 ?_ ?_ hd hf) f hlc hlv kk
  · show (As.reverse ++ rest).map (cv w) = _
    rw [List.map_append, as_rev]
  · show 2 * 0 + _ ≤ 8
    rw [cv_cats]
    omega
theorem rj_callSN {own host : String} {idx h : Nat} {mi2 : MI} {As rest : List Value} {np mc ms : Nat} {Q : Option Value → Nat → Ent → Prop} (ho : mi.1.cls = own) (hl : Cond.methodLinkNest own idx mi2.1 host ∈ tN) (hm : MT mi2 np) (hd : decode mi.2.1 pc = .ok (.invokestatic idx, 3)) (hst : st = As.reverse ++ rest) (hn : As.length = np) (hw : (rest.map fun v => v.category).sum ≤ 8)
    (hR : h + 1 ≤ R.frames ∧ 8 + (mi2.2.2.1 + 11) + 39 * h ≤ R.locals) (hf : ce + mc ≤ R.cells ∧ sl + ms ≤ R.slots) (hco : CO w h mi2 mc ms As n es Q) (kk : ∀ r n' es', Q r n' es' → RJ w R mi (ce + mc) (sl + ms) (pc + 3) lv (r.toList ++ rest) n' es' F) : RJ w R mi ce sl pc lv st n es F := by
  intro p e s m args below meth c H locs ls f hlc hh hlv
  subst hst
  obtain ⟨⟨m1, m2, m3, m4, m5⟩, m6⟩ := hm
  have hts := f.2.2.2.2.2.2.2.1
  have hK := f.2.2.2.2.2.2.2.2
  refine run_end (va_runSN (host := host) (g := F0 m pc ls ((As.reverse ++ rest).map (cv w))) (As := As.map (cv w)) (rest := rest.map (cv w)) ⟨f.1, f.2.1, f.2.2.2.1, ho ▸ f.2.2.2.2.1, hts⟩ hco ⟨va_cnB np hts (goodC m1) rfl rfl rfl (hK.2.1 _ hl) (hts _ m2) ⟨m3, m4, m5⟩ hR, hts _ m6, trivial⟩ (preS f.2.2.2.2.2.2.2.2 hh) rfl (by simpa using hn) hlv.1 ?_ ?_ hd hf) f hlc hlv kk
  · show (As.reverse ++ rest).map (cv w) = _
    rw [List.map_append, as_rev]
  · show 2 * 0 + _ ≤ 8
    rw [cv_cats]
    omega
theorem rj_callI {own : String} {idx h k : Nat} {mi2 : MI} {As rest : List Value} {np mc ms : Nat} {Q : Option Value → Nat → Ent → Prop} (ho : mi.1.cls = own) (hl : Cond.methodLink own idx mi2.1 ∈ tG) (hm : MC mi2 np) (hd : decode mi.2.1 pc = .ok (.invokespecial idx, 3)) (hk : k < 1000) (hst : st = As.reverse ++ .ref k :: rest) (hn : As.length = np) (hw : (rest.map fun v => v.category).sum ≤ 8)
    (hR : h + 1 ≤ R.frames ∧ 8 + (mi2.2.2.1 + 11) + 39 * h ≤ R.locals) (hf : ce + mc ≤ R.cells ∧ sl + ms ≤ R.slots) (hco : CO w h mi2 mc ms (.ref k :: As) n es Q) (kk : ∀ r n' es', Q r n' es' → RJ w R mi (ce + mc) (sl + ms) (pc + 3) lv (r.toList ++ rest) n' es' F) : RJ w R mi ce sl pc lv st n es F := by
  intro p e s m args below meth c H locs ls f hlc hh hlv
  subst hst
  obtain ⟨⟨m1, m2, m3, m4, m5⟩, m6, m7, m8⟩ := hm
  have hts := f.2.2.2.2.2.2.2.1
  have e0 : (Value.ref (wB w + k) :: As.map (cv w)) = ((Value.ref k :: As).map (cv w)) := by rw [List.map_cons, cv_lo w hk]
  have hp := preS (as := Value.ref k :: As) f.2.2.2.2.2.2.2.2 hh
  rw [← e0] at hp
  have hcb := callB_of np hts (goodC m1) rfl (rm := rmk h mc ms) rfl rfl (hts _ m2) (hts _ hl) ⟨m3, m4, m5⟩ hR
  rw [m8] at hcb
  have hco' : Met (wl w) mi2.1 (Cond.code mi2.1 mi2.2.1 mi2.2.2.1 none :: tG) (rmk h mc ms) (fun a U => a = (Value.ref (wB w + k) :: As.map (cv w)).toArray ∧ KS w U ∧ HH w U.heap n es) (QC w Q) mc ms (wA w) := by
    rw [e0, ← m8]; exact hco
  refine run_end (va_runI (g := F0 m pc ls ((As.reverse ++ .ref k :: rest).map (cv w))) (b := wB w + k) (As := As.map (cv w)) (rest := rest.map (cv w)) ⟨f.1, f.2.1, f.2.2.2.1, ho ▸ f.2.2.2.2.1, hts⟩ hco' ⟨hcb, m7, hts _ m6⟩ hp rfl (by simpa using hn) hlv.1 ?_ ?_ hd hf) f hlc hlv kk
  · show (As.reverse ++ .ref k :: rest).map (cv w) = _
    rw [List.map_append, List.map_cons, as_rev, cv_lo w hk]
  · show 2 * 0 + _ ≤ 8
    rw [cv_cats]
    omega
theorem rj_callIN {own host : String} {idx h k : Nat} {mi2 : MI} {As rest : List Value} {np mc ms : Nat} {Q : Option Value → Nat → Ent → Prop} (ho : mi.1.cls = own) (hl : Cond.methodLinkNest own idx mi2.1 host ∈ tN) (hm : MC mi2 np) (hd : decode mi.2.1 pc = .ok (.invokespecial idx, 3)) (hk : k < 1000) (hst : st = As.reverse ++ .ref k :: rest) (hn : As.length = np) (hw : (rest.map fun v => v.category).sum ≤ 8)
    (hR : h + 1 ≤ R.frames ∧ 8 + (mi2.2.2.1 + 11) + 39 * h ≤ R.locals) (hf : ce + mc ≤ R.cells ∧ sl + ms ≤ R.slots) (hco : CO w h mi2 mc ms (.ref k :: As) n es Q) (kk : ∀ r n' es', Q r n' es' → RJ w R mi (ce + mc) (sl + ms) (pc + 3) lv (r.toList ++ rest) n' es' F) : RJ w R mi ce sl pc lv st n es F := by
  intro p e s m args below meth c H locs ls f hlc hh hlv
  subst hst
  obtain ⟨⟨m1, m2, m3, m4, m5⟩, m6, m7, m8⟩ := hm
  have hts := f.2.2.2.2.2.2.2.1
  have hK := f.2.2.2.2.2.2.2.2
  have e0 : (Value.ref (wB w + k) :: As.map (cv w)) = ((Value.ref k :: As).map (cv w)) := by rw [List.map_cons, cv_lo w hk]
  have hp := preS (as := Value.ref k :: As) f.2.2.2.2.2.2.2.2 hh
  rw [← e0] at hp
  have hcb := va_cnB np hts (goodC m1) rfl (rm := rmk h mc ms) rfl rfl (hK.2.1 _ hl) (hts _ m2) ⟨m3, m4, m5⟩ hR
  rw [m8] at hcb
  have hco' : Met (wl w) mi2.1 (Cond.code mi2.1 mi2.2.1 mi2.2.2.1 none :: tG) (rmk h mc ms) (fun a U => a = (Value.ref (wB w + k) :: As.map (cv w)).toArray ∧ KS w U ∧ HH w U.heap n es) (QC w Q) mc ms (wA w) := by
    rw [e0, ← m8]; exact hco
  refine run_end (va_runIN (host := host) (g := F0 m pc ls ((As.reverse ++ .ref k :: rest).map (cv w))) (b := wB w + k) (As := As.map (cv w)) (rest := rest.map (cv w)) ⟨f.1, f.2.1, f.2.2.2.1, ho ▸ f.2.2.2.2.1, hts⟩ hco' ⟨hcb, m7, hts _ m6⟩ hp rfl (by simpa using hn) hlv.1 ?_ ?_ hd hf) f hlc hlv kk
  · show (As.reverse ++ .ref k :: rest).map (cv w) = _
    rw [List.map_append, List.map_cons, as_rev, cv_lo w hk]
  · show 2 * 0 + _ ≤ 8
    rw [cv_cats]
    omega
theorem rj_objInit {own : String} {idx k : Nat} {rest : List Value} (ho : mi.1.cls = own) (hl : Cond.methodLink own idx Lib.objectInit ∈ tG) (h1 : Cond.instanceMethod Lib.objectInit ∈ tG) (h2 : Cond.code Lib.objectInit ⟨#[0xb1]⟩ 1 none ∈ tG) (hd : decode mi.2.1 pc = .ok (.invokespecial idx, 3)) (hk : k < 1000) (hR : 1 ≤ R.frames) (hR2 : (rest.map fun v => v.category).sum + 12 ≤ R.locals) (kk : RJ w R mi ce sl (pc + 3) lv rest n es F) : RJ w R mi ce sl pc lv (.ref k :: rest) n es F := by
  intro p e s m args below meth c H locs ls f hlc hh hlv
  have hts := f.2.2.2.2.2.2.2.1
  show W p (wl w) e R s m args below meth c H locs ce sl (F args s below) (F0 m pc ls (cv w (.ref k) :: rest.map (cv w)))
  rw [cv_lo w hk]
  refine W.objInit f.1 f.2.1 (ho ▸ f.2.2.2.2.1) (hts _ hl) (hts _ h1) (hts _ h2) rfl (hlv.1.trans f.2.2.2.1.symm) rfl hd hR ?_ (kk p e s m args below meth c H locs ls f hlc hh hlv)
  show 2 * 0 + _ + 12 ≤ _
  rw [cv_cats]
  omega
theorem rj_new {own C : String} {T : u_T} {N idx ci : Nat} {fs : List Value} (ho : mi.1.cls = own) (hCL : CL ci C T N) (hfs : ∀ j, j < N → ∀ ty, parseFieldDescriptor (T j).2.2.1 = some ty → fs[j]? = some (defaultValue ty)) (hcv : fs.map (cv w) = fs) (h1 : Cond.classLink own idx C ∈ tG) (h2 : Cond.instantiable C N ∈ tG) (h3 : Cond.initialized C ∈ tG) (hd : decode mi.2.1 pc = .ok (.new idx, 3)) (hn : n < 1000) (hce : ce + 1 ≤ R.cells) (hsl : sl + N ≤ R.slots)
    (kk : ∀ es', es' = va_up es n (.inr (ci, fs)) → RJ w R mi (ce + 1) (sl + N) (pc + 3) lv (.ref n :: st) (n + 1) es' F) : RJ w R mi ce sl pc lv st n es F := by
  intro p e s m args below meth c H locs ls f hlc hh hlv
  obtain ⟨hc, hin, ⟨ty0, hty⟩, hnm⟩ := hCL
  have hts := f.2.2.2.2.2.2.2.1
  have hKn := f.2.2.2.2.2.2.2.2.1.1 ci _ hc
  refine W.newcK f.1 f.2.1 (ho ▸ f.2.2.2.2.1) (hts _ h1) (hts _ h2) (hts _ h3) rfl hd hce hsl hKn.2.1 rfl fun H1 kC hkC e1 z1 o1 => ?_
  have hB := u_born ty0 hts hin hKn hkC e1 hty
  have g := kk _ rfl p e s m args below meth c H1 locs ls f hlc (new_at hh hn z1 o1 ⟨_, hc, by
    show t_OB (wB w + n) ((wD w).1 ci) N ((wD w).2 ci) H1 (vp_V (fs.map (cv w)))
    rw [hcv, ← hh.2.1]
    refine hB.to (fun j hj => ?_)
    have := hfs j hj _ (hty j hj)
    unfold vp_V
    rw [List.getD_eq_getElem?_getD, this]
    rfl⟩) hlv
  have e9 : (Value.ref n :: st).map (cv w) = .ref H.size :: st.map (cv w) := by rw [List.map_cons, cv_lo w hn, hh.2.1]
  rw [e9] at g
  exact g
theorem rj_newa {x : Int32} {N' : Nat} (ha : Cond.arrayClass .int ∈ tG) (hd : decode mi.2.1 pc = .ok (.newarray .int, 2)) (hx : ¬ x < 0) (hN : x.toNatClampNeg = N') (hb : N' * 4 ≤ 536870912) (hn : n < 1000) (hce : ce + 1 ≤ R.cells) (hsl : sl + N' ≤ R.slots)
    (kk : ∀ es', es' = va_up es n (.inl (0, N', .inl (fun _ => 0))) → RJ w R mi (ce + 1) (sl + N') (pc + 2) lv (.ref n :: st) (n + 1) es' F) : RJ w R mi ce sl pc lv (.int x :: st) n es F := by
  intro p e s m args below meth c H locs ls f hlc hh hlv
  have hts := f.2.2.2.2.2.2.2.1
  refine va_newaK (atype := .int) f.1 f.2.1 (hts _ ha) rfl hd rfl hx hN hb hce hsl rfl fun H1 cA e1 z1 o1 hAr hNm => ?_
  have hcA : cA = wI w := Option.some.inj (hNm.symm.trans (iIn f.2.2.2.2.2.2.2.2))
  subst hcA
  have g := kk _ rfl p e s m args below meth c H1 locs ls f hlc (new_at hh hn z1 o1 (by
    show H1[wB w + n]? = some (arrV (wI w) N' (fun j => .int 0))
    rw [← hh.2.1]
    exact e1)) hlv
  have e9 : (Value.ref n :: st).map (cv w) = .ref H.size :: st.map (cv w) := by rw [List.map_cons, cv_lo w hn, hh.2.1]
  rw [e9] at g
  exact g
theorem rj_anew {own : String} {idx : Nat} {x : Int32} {N' : Nat} (ho : mi.1.cls = own) (hcl : Cond.classLink own idx RX6 ∈ tG) (hd : decode mi.2.1 pc = .ok (.anewarray idx, 3)) (hx : ¬ x < 0) (hN : x.toNatClampNeg = N') (hb : N' * 4 ≤ 536870912) (hn : n < 1000) (hce : ce + 1 ≤ R.cells) (hsl : sl + N' ≤ R.slots)
    (kk : ∀ es', es' = va_up es n (.inl (1, N', .inr (.inr (.inr (.inr (fun _ => none)))))) → RJ w R mi (ce + 1) (sl + N') (pc + 3) lv (.ref n :: st) (n + 1) es' F) : RJ w R mi ce sl pc lv (.int x :: st) n es F := by
  intro p e s m args below meth c H locs ls f hlc hh hlv
  have hts := f.2.2.2.2.2.2.2.1
  have hK := f.2.2.2.2.2.2.2.2
  subst hN
  refine W.anew f.1 f.2.1 (ho ▸ f.2.2.2.2.1) (hts _ hcl) (va_AO.use hK.2.2.2.2.2.1) rfl hd rfl hx hb hce hsl fun cA kA comp h1 h2 h3 h4 => ?_
  obtain ⟨kA', comp', q1, q2, q3, q4⟩ := (hK.1.2 1 (wR w, .object RX6) rfl).2
  have hcA : cA = wR w := Option.some.inj (h1.symm.trans q4)
  subst hcA
  have g := kk _ rfl p e s m args below meth c _ locs ls f hlc (new_at hh hn (H1 := H.push { cls := wR w, slots := Array.replicate x.toNatClampNeg .null, vm := .none }) (by simp) (fun q hq => by rw [Array.getElem?_push, if_neg (Nat.ne_of_lt hq)]) (by
    show (H.push { cls := wR w, slots := Array.replicate x.toNatClampNeg .null, vm := .none })[wB w + n]? = some (arrV (wR w) x.toNatClampNeg (fun j => .null))
    rw [← hh.2.1, ← arrV_new]
    simp)) hlv
  have e9 : (Value.ref n :: st).map (cv w) = .ref H.size :: st.map (cv w) := by rw [List.map_cons, cv_lo w hn, hh.2.1]
  rw [e9] at g
  exact g
theorem rj_aast {k len v : Nat} {g : Nat → Option Nat} {i : Int32} {fs : List Value} (hd : decode mi.2.1 pc = .ok (.aastore, 1)) (hk : k < n) (he : es k = .inl (1, len, .inr (.inr (.inr (.inr g))))) (hin : vp_in i len) (hv : v < n) (hev : es v = .inr (6, fs)) (kk : ∀ es', es' = va_up es k (.inl (1, len, .inr (.inr (.inr (.inr (va_up g i.toNatClampNeg (some v))))))) → RJ w R mi ce sl (pc + 1) lv st n es' F) : RJ w R mi ce sl pc lv (.ref v :: .int i :: .ref k :: st) n es F := by
  intro p e s m args below meth c H locs ls f hl hh hlv
  have hK := f.2.2.2.2.2.2.2.2.1
  have hk1 : k < 1000 := Nat.lt_of_lt_of_le hk hh.1
  have hv1 : v < 1000 := Nat.lt_of_lt_of_le hv hh.1
  have hP := hh.2.2.2 k hk
  rw [he] at hP
  have hc : H[wB w + k]? = some (arrV (wR w) len (fun j => va_rf ((g j).map (fun k => wB w + k)))) := hP
  have hPv := hh.2.2.2 v hv
  rw [hev] at hPv
  obtain ⟨r, hr, cellV, g1, g2, g3, -⟩ := hPv
  have hlt : i.toNatClampNeg < len := Nat.not_le.mp fun q => hin (Or.inr q)
  have h0 : ¬ i < 0 := fun q => hin (Or.inl q)
  have hcls := (hK.1 6 r hr).2
  have hr6 : r = (RX6, TX6, 3) := Option.some.inj (hr.symm.trans rfl)
  subst hr6
  obtain ⟨kA, comp, k1, k2, k3, -⟩ := (hK.2 1 (wR w, .object RX6) rfl).2
  have hcomp : comp = (wD w).1 6 := Option.some.inj (k3.symm.trans hcls.1)
  subst hcomp
  obtain ⟨kC, hkC, -⟩ := id hcls.2
  show W p (wl w) e R s m args below meth c H locs ce sl (F args s below) (F0 m pc ls (cv w (.ref v) :: .int i :: cv w (.ref k) :: st.map (cv w)))
  rw [cv_lo w hk1, cv_lo w hv1]
  refine W.aast f.1 f.2.1 hc (fun q h => by cases h) (fun h => by cases h) k1 k2 rfl hkC ⟨h0, by rw [arrV_size]; exact hlt⟩ g1 (fun q h => by rw [g3] at h; cases h) (by rw [g2]; exact hkC) (by rw [g2]; exact va_assign hcls) rfl rfl hd fun H1 e1 z oq => ?_
  refine kk _ rfl p e s m args below meth c H1 _ ls f (fun q hq => ?_) (eup_at hh z oq ?_) hlv
  · rcases List.mem_append.mp hq with h | h
    · exact hl q h
    · rw [List.mem_singleton.mp h]; exact Nat.le_add_right _ _
  · show H1[wB w + k]? = some (arrV (wR w) len (fun j => va_rf ((va_up g i.toNatClampNeg (some v) j).map (fun k => wB w + k))))
    rw [e1, arrV_store]
    congr 2
    funext q
    by_cases hq : q = i.toNatClampNeg
    · simp [updV, va_up, hq, va_rf]
    · simp [updV, va_up, hq]
end RULES3
end
section
/-! ===== what was there before the law began: script, static arrays, texts; arraycopy ===== -/
section RULES4
variable {w : Wd} {R : Room} {mi : MI} {ce sl pc : Nat} {lv lv' : List (Nat × Value)} {st : List Value} {n : Nat} {es : Ent} {F : Array Value → State → List Frame → State → Prop}
theorem cvc (k : Nat) (rest : List Value) : (Value.ref (1000 + k) :: rest).map (cv w) = .ref (wX w k) :: rest.map (cv w) := by rw [List.map_cons, cv_hi]
/-- the script: cell 1000 -/
theorem rj_sld {i : Int32} (hd : decode mi.2.1 pc = .ok (.iaload, 1)) (hin : vp_in i (wL w)) (kk : RJ w R mi ce sl (pc + 1) lv (.int (wS w i.toNatClampNeg) :: st) n es F) : RJ w R mi ce sl pc lv (.int i :: .ref 1000 :: st) n es F := by
  intro p e s m args below meth c H locs ls f hl hh hlv
  obtain ⟨⟨scr, h1, h2, h3, h4, h5⟩, hb⟩ := f.2.2.2.2.2.2.2.2.2.2.1
  have hlt : i.toNatClampNeg < wL w := Nat.not_le.mp fun q => hin (Or.inr q)
  show W p (wl w) e R s m args below meth c H locs ce sl (F args s below) (F0 m pc ls (.int i :: (Value.ref (1000 + 0) :: st).map (cv w)))
  rw [cvc]
  exact W.iald (v := .int (wS w i.toNatClampNeg)) f.1 f.2.1 (by rw [hh.2.2.1 _ hb]; exact h1) h2 h3 (by rw [h4]; exact hin) (h5 _ hlt) rfl rfl hd (kk p e s m args below meth c H locs ls f hl hh hlv)
theorem rj_slen (hd : decode mi.2.1 pc = .ok (.arraylength, 1)) (kk : RJ w R mi ce sl (pc + 1) lv (.int (Int32.ofNat (wL w)) :: st) n es F) : RJ w R mi ce sl pc lv (.ref 1000 :: st) n es F := by
  intro p e s m args below meth c H locs ls f hl hh hlv
  obtain ⟨⟨scr, h1, h2, h3, h4, h5⟩, hb⟩ := f.2.2.2.2.2.2.2.2.2.2.1
  show W p (wl w) e R s m args below meth c H locs ce sl (F args s below) (F0 m pc ls ((Value.ref (1000 + 0) :: st).map (cv w)))
  rw [cvc]
  exact W.alen (n := Int32.ofNat (wL w)) f.1 f.2.1 (by rw [hh.2.2.1 _ hb]; exact h1) h2 (by rw [h4] <;> rfl) rfl rfl hd (kk p e s m args below meth c H locs ls f hl hh hlv)
theorem gets_core {own C nm ds : String} {v : Value} {idx : Nat} {p : Program} {e : Env} {s : State} {m : MethodId} {args : Array Value} {below : List Frame} {meth : Method} {c : Code} {H : Heap} {locs : List Loc} {ls : Array Slot} (f : FX w mi p s m args meth c) (hh : HH w H n es) (hZ : va_Z C nm ds (cv w v) (wA w) s (wH w)) (ho : mi.1.cls = own)
    (hlink : (Cond.fieldLink own idx C nm ds).before args s = true) (hd : decode mi.2.1 pc = .ok (.getstatic idx, 3)) (kk : W p (wl w) e R s m args below meth c H locs ce sl (F args s below) (F0 m (pc + 3) ls ((v :: st).map (cv w)))) : W p (wl w) e R s m args below meth c H locs ce sl (F args s below) (F0 m pc ls (st.map (cv w))) := by
  obtain ⟨cf, kf, fi, fd, a, cell, h1, h2, h3, h4, h5, h6, h7, h8⟩ := hZ.kept hh.old
  exact W.gets f.1 f.2.1 (ho ▸ f.2.2.2.2.1) hlink h1 h2 h3 h4 h5 (fun e => by rw [e] at h6; cases h6) h7 rfl hd kk
/-- PaneThread.ABOVE: cell 1001 -/
theorem rj_getsA {own : String} {idx : Nat} (ho : mi.1.cls = own) (hlink : Cond.fieldLink own idx RX10 "ABOVE" "[I" ∈ tG) (hd : decode mi.2.1 pc = .ok (.getstatic idx, 3)) (kk : RJ w R mi ce sl (pc + 3) lv (.ref 1001 :: st) n es F) : RJ w R mi ce sl pc lv st n es F :=
  fun p e s m args below meth c H locs ls f hl hh hlv => gets_core (v := .ref (1000 + 1)) f hh (by rw [cv_hi]; exact f.2.2.2.2.2.2.2.2.2.2.2.1.1.1) ho (f.2.2.2.2.2.2.2.1 _ hlink) hd (kk p e s m args below meth c H locs ls f hl hh hlv)
theorem rj_getsC {own : String} {idx : Nat} (ho : mi.1.cls = own) (hlink : Cond.fieldLink own idx RJ0 "COMPACT_STRINGS" "Z" ∈ tG) (hd : decode mi.2.1 pc = .ok (.getstatic idx, 3)) (kk : RJ w R mi ce sl (pc + 3) lv (.int 1 :: st) n es F) : RJ w R mi ce sl pc lv st n es F :=
  fun p e s m args below meth c H locs ls f hl hh hlv => gets_core (v := .int 1) f hh f.2.2.2.2.2.2.2.2.2.2.2.1.2.2.2.1 ho (f.2.2.2.2.2.2.2.1 _ hlink) hd (kk p e s m args below meth c H locs ls f hl hh hlv)
theorem rj_getsF {own : String} {idx : Nat} (ho : mi.1.cls = own) (hlink : Cond.fieldLink own idx RJ3 "SIOOBE_FORMATTER" "Ljava/util/function/BiFunction;" ∈ tG) (hd : decode mi.2.1 pc = .ok (.getstatic idx, 3)) (kk : RJ w R mi ce sl (pc + 3) lv (wV w :: st) n es F) : RJ w R mi ce sl pc lv st n es F :=
  fun p e s m args below meth c H locs ls f hl hh hlv => gets_core (v := wV w) f hh f.2.2.2.2.2.2.2.2.2.2.2.1.2.2.2.2 ho (f.2.2.2.2.2.2.2.1 _ hlink) hd (kk p e s m args below meth c H locs ls f hl hh hlv)
theorem getsN_core {own C nm ds host : String} {v : Value} {idx : Nat} {p : Program} {e : Env} {s : State} {m : MethodId} {args : Array Value} {below : List Frame} {meth : Method} {c : Code} {H : Heap} {locs : List Loc} {ls : Array Slot} (f : FX w mi p s m args meth c) (hh : HH w H n es) (hZ : va_Z C nm ds (cv w v) (wA w) s (wH w)) (ho : mi.1.cls = own)
    (hlink : Cond.fieldLinkNest own idx C nm ds host ∈ tN) (hd : decode mi.2.1 pc = .ok (.getstatic idx, 3)) (kk : W p (wl w) e R s m args below meth c H locs ce sl (F args s below) (F0 m (pc + 3) ls ((v :: st).map (cv w)))) : W p (wl w) e R s m args below meth c H locs ce sl (F args s below) (F0 m pc ls (st.map (cv w))) := by
  obtain ⟨cf, kf, fi, fd, a, cell, h1, h2, h3, h4, h5, h6, h7, h8⟩ := hZ.kept hh.old
  exact va_WgetsN f.1 f.2.1 (ho ▸ f.2.2.2.2.1) (va_Nw.use rfl (f.2.2.2.2.2.2.2.2.2.1 _ hlink)) h1 h2 h3 h4 h5 (fun e => by rw [e] at h6; cases h6) h7 rfl hd kk
theorem rj_getsL {own host : String} {idx : Nat} (ho : mi.1.cls = own) (hlink : Cond.fieldLinkNest own idx RX10 "LEAST_OF_DEED" "[I" host ∈ tN) (hd : decode mi.2.1 pc = .ok (.getstatic idx, 3)) (kk : RJ w R mi ce sl (pc + 3) lv (.ref 1002 :: st) n es F) : RJ w R mi ce sl pc lv st n es F :=
  fun p e s m args below meth c H locs ls f hl hh hlv => getsN_core (v := .ref (1000 + 2)) f hh (by rw [cv_hi]; exact f.2.2.2.2.2.2.2.2.2.2.2.1.2.1.1) ho hlink hd (kk p e s m args below meth c H locs ls f hl hh hlv)
theorem rj_getsM {own host : String} {idx : Nat} (ho : mi.1.cls = own) (hlink : Cond.fieldLinkNest own idx RX10 "MOST_OF_DEED" "[I" host ∈ tN) (hd : decode mi.2.1 pc = .ok (.getstatic idx, 3)) (kk : RJ w R mi ce sl (pc + 3) lv (.ref 1003 :: st) n es F) : RJ w R mi ce sl pc lv st n es F :=
  fun p e s m args below meth c H locs ls f hl hh hlv => getsN_core (v := .ref (1000 + 3)) f hh (by rw [cv_hi]; exact f.2.2.2.2.2.2.2.2.2.2.2.1.2.2.1.1) ho hlink hd (kk p e s m args below meth c H locs ls f hl hh hlv)
theorem tald_core {q N : Nat} {g : Nat → Int32} {i : Int32} {p : Program} {e : Env} {s : State} {m : MethodId} {args : Array Value} {below : List Frame} {meth : Method} {c : Code} {H : Heap} {locs : List Loc} {ls : Array Slot} (f : FX w mi p s m args meth c) (hh : HH w H n es) (hT : va_T .int (wX w q) N (fun j => .int (g j)) (wA w) s (wH w))
    (hd : decode mi.2.1 pc = .ok (.iaload, 1)) (hin : vp_in i N) (kk : W p (wl w) e R s m args below meth c H locs ce sl (F args s below) (F0 m (pc + 1) ls (.int (g i.toNatClampNeg) :: st.map (cv w)))) : W p (wl w) e R s m args below meth c H locs ce sl (F args s below) (F0 m pc ls ((.int i :: .ref (1000 + q) :: st).map (cv w))) := by
  obtain ⟨cell, h1, h2, h3, h4, h5, h6, h7⟩ := hT.kept hh.old
  have hlt : i.toNatClampNeg < N := Nat.not_le.mp fun q => hin (Or.inr q)
  have hin' : ¬ (i < 0 ∨ cell.slots.size ≤ i.toNatClampNeg) := by
    intro q
    rcases q with q | q
    · exact hin (Or.inl q)
    · omega
  show W p (wl w) e R s m args below meth c H locs ce sl (F args s below) (F0 m pc ls (.int i :: (Value.ref (1000 + q) :: st).map (cv w)))
  rw [cvc]
  exact W.iald (v := .int (g i.toNatClampNeg)) f.1 f.2.1 h1 h2 h3 hin' (h6 _ hlt) rfl rfl hd kk
theorem rj_taldA {i : Int32} (hd : decode mi.2.1 pc = .ok (.iaload, 1)) (hin : vp_in i 8) (kk : RJ w R mi ce sl (pc + 1) lv (.int (tabA i.toNatClampNeg) :: st) n es F) : RJ w R mi ce sl pc lv (.int i :: .ref 1001 :: st) n es F :=
  fun p e s m args below meth c H locs ls f hl hh hlv => tald_core (q := 1) f hh f.2.2.2.2.2.2.2.2.2.2.2.1.1.2 hd hin (kk p e s m args below meth c H locs ls f hl hh hlv)
theorem rj_taldL {i : Int32} (hd : decode mi.2.1 pc = .ok (.iaload, 1)) (hin : vp_in i 13) (kk : RJ w R mi ce sl (pc + 1) lv (.int (tabL i.toNatClampNeg) :: st) n es F) : RJ w R mi ce sl pc lv (.int i :: .ref 1002 :: st) n es F :=
  fun p e s m args below meth c H locs ls f hl hh hlv => tald_core (q := 2) f hh f.2.2.2.2.2.2.2.2.2.2.2.1.2.1.2 hd hin (kk p e s m args below meth c H locs ls f hl hh hlv)
theorem rj_taldM {i : Int32} (hd : decode mi.2.1 pc = .ok (.iaload, 1)) (hin : vp_in i 13) (kk : RJ w R mi ce sl (pc + 1) lv (.int (tabM i.toNatClampNeg) :: st) n es F) : RJ w R mi ce sl pc lv (.int i :: .ref 1003 :: st) n es F :=
  fun p e s m args below meth c H locs ls f hl hh hlv => tald_core (q := 3) f hh f.2.2.2.2.2.2.2.2.2.2.2.1.2.2.1.2 hd hin (kk p e s m args below meth c H locs ls f hl hh hlv)
/-- text i: cell 1004 + i, its bytes 1032 + i -/
theorem rj_ldcS {own : String} {idx i : Nat} (hi : i < 28) (ho : mi.1.cls = own) (h1 : strO i = own) (h2 : strK i = idx) (hd : decode mi.2.1 pc = .ok (.ldc idx, 2)) (kk : RJ w R mi ce sl (pc + 2) lv (.ref (1000 + (4 + i)) :: st) n es F) : RJ w R mi ce sl pc lv st n es F := by
  intro p e s m args below meth c H locs ls f hl hh hlv
  have g := kk p e s m args below meth c H locs ls f hl hh hlv
  rw [cvc] at g
  subst h1; subst h2
  exact va_ldcS f.1 f.2.1 (ho ▸ f.2.2.2.2.1) (f.2.2.2.2.2.2.2.2.2.2.2.2.1 i hi).1 hd g
theorem rj_sval {i idx : Nat} (hi : i < 28) (ho : mi.1.cls = RJ0) (hl : Cond.fieldLink RJ0 idx RJ0 "value" "[B" ∈ tG) (hd : decode mi.2.1 pc = .ok (.getfield idx, 3)) (kk : RJ w R mi ce sl (pc + 3) lv (.ref (1000 + (32 + i)) :: st) n es F) : RJ w R mi ce sl pc lv (.ref (1000 + (4 + i)) :: st) n es F := by
  intro p e s m args below meth c H locs ls f hlc hh hlv
  have g := kk p e s m args below meth c H locs ls f hlc hh hlv
  rw [cvc] at g ⊢
  obtain ⟨cf, k, fi, fd, cell, h1, h2, h3, h4, h5, h6⟩ := (f.2.2.2.2.2.2.2.2.2.2.2.2.1 i hi).2.2.2.1.kept hh.old
  exact W.getf f.1 f.2.1 (ho ▸ f.2.2.2.2.1) (f.2.2.2.2.2.2.2.1 _ hl) h1 h2 h3 h4 (v := .ref (wX w (32 + i))) h5 rfl rfl hd g
theorem rj_scod {i idx : Nat} (hi : i < 28) (ho : mi.1.cls = RJ0) (hl : Cond.fieldLink RJ0 idx RJ0 "coder" "B" ∈ tG) (hd : decode mi.2.1 pc = .ok (.getfield idx, 3)) (kk : RJ w R mi ce sl (pc + 3) lv (.int 0 :: st) n es F) : RJ w R mi ce sl pc lv (.ref (1000 + (4 + i)) :: st) n es F := by
  intro p e s m args below meth c H locs ls f hlc hh hlv
  have g := kk p e s m args below meth c H locs ls f hlc hh hlv
  rw [cvc]
  obtain ⟨cf, k, fi, fd, cell, h1, h2, h3, h4, h5, h6⟩ := (f.2.2.2.2.2.2.2.2.2.2.2.2.1 i hi).2.2.1.kept hh.old
  exact W.getf f.1 f.2.1 (ho ▸ f.2.2.2.2.1) (f.2.2.2.2.2.2.2.1 _ hl) h1 h2 h3 h4 (v := .int 0) h5 rfl rfl hd g
theorem rj_balen {i : Nat} {v : Int32} (hi : i < 28) (hv : Int32.ofNat (strB i).length = v) (hd : decode mi.2.1 pc = .ok (.arraylength, 1)) (kk : RJ w R mi ce sl (pc + 1) lv (.int v :: st) n es F) : RJ w R mi ce sl pc lv (.ref (1000 + (32 + i)) :: st) n es F := by
  intro p e s m args below meth c H locs ls f hlc hh hlv
  have g := kk p e s m args below meth c H locs ls f hlc hh hlv
  rw [cvc]
  obtain ⟨cell, h1, h2, h3, h4, h5, h6, h7⟩ := (f.2.2.2.2.2.2.2.2.2.2.2.2.1 i hi).2.2.2.2.kept hh.old
  exact W.alen (n := v) f.1 f.2.1 h1 h2 (h5.trans hv) rfl rfl hd g
theorem rj_bald {i : Nat} {j : Int32} (hi : i < 28) (hin : vp_in j (strB i).length) (hd : decode mi.2.1 pc = .ok (.baload, 1)) (kk : RJ w R mi ce sl (pc + 1) lv (.int ((strB i).getD j.toNatClampNeg 0) :: st) n es F) : RJ w R mi ce sl pc lv (.int j :: .ref (1000 + (32 + i)) :: st) n es F := by
  intro p e s m args below meth c H locs ls f hlc hh hlv
  have g := kk p e s m args below meth c H locs ls f hlc hh hlv
  show W p (wl w) e R s m args below meth c H locs ce sl (F args s below) (F0 m pc ls (.int j :: (Value.ref (1000 + (32 + i)) :: st).map (cv w)))
  rw [cvc]
  obtain ⟨cell, h1, h2, h3, h4, h5, h6, h7⟩ := (f.2.2.2.2.2.2.2.2.2.2.2.2.1 i hi).2.2.2.2.kept hh.old
  have hlt : j.toNatClampNeg < (strB i).length := Nat.not_le.mp fun q => hin (Or.inr q)
  have hin' : ¬ (j < 0 ∨ cell.slots.size ≤ j.toNatClampNeg) := by
    intro q
    rcases q with q | q
    · exact hin (Or.inl q)
    · omega
  exact W.bald (v := .int ((strB i).getD j.toNatClampNeg 0)) f.1 f.2.1 h1 h2 h3 hin' (h6 _ hlt) rfl rfl hd g
/-- a method of a text -/
theorem rj_callT {own : String} {idx i h : Nat} {mi2 : MI} {As rest : List Value} {np mc ms : Nat} {Q : Option Value → Nat → Ent → Prop} (hi : i < 28) (ho : mi.1.cls = own) (hl : Cond.methodLink own idx mi2.1 ∈ tG) (hm : MV mi2 np) (hd : decode mi.2.1 pc = .ok (.invokevirtual idx, 3)) (hC : mi2.1.cls = "java/lang/String") (hst : st = As.reverse ++ .ref (1000 + (4 + i)) :: rest) (hn : As.length = np) (hw : (rest.map fun v => v.category).sum ≤ 8)
    (hR : h + 1 ≤ R.frames ∧ 8 + (mi2.2.2.1 + 11) + 39 * h ≤ R.locals) (hf : ce + mc ≤ R.cells ∧ sl + ms ≤ R.slots) (hco : CO w h mi2 mc ms (.ref (1000 + (4 + i)) :: As) n es Q) (kk : ∀ r n' es', Q r n' es' → RJ w R mi (ce + mc) (sl + ms) (pc + 3) lv (r.toList ++ rest) n' es' F) : RJ w R mi ce sl pc lv st n es F := by
  intro p e s m args below meth c H locs ls f hlc hh hlv
  subst hst
  obtain ⟨⟨m1, m2, m3, m4, m5⟩, m6, m7⟩ := hm
  have hts := f.2.2.2.2.2.2.2.1
  have cw : CallW R s args own mi2.1.cls idx mi2.1 mi2.2.1 mi2.2.2.1 mi2.2.2.2 (Cond.code mi2.1 mi2.2.1 mi2.2.2.1 mi2.2.2.2 :: tG) (rmk h mc ms) mc ms np := ⟨callB_of np hts (goodC m1) rfl rfl rfl (hts _ m2) (hts _ hl) ⟨m3, m4, m5⟩ hR, hts _ m6, hts _ m7⟩
  obtain ⟨cell, q1, q2, q3, -⟩ := (f.2.2.2.2.2.2.2.2.2.2.2.2.1 i hi).2.1.kept hh.old
  have hpre : PreV s H mi2.1.cls (wX w (4 + i)) (fun a U => a = ((Value.ref (1000 + (4 + i)) :: As).map (cv w)).toArray ∧ KS w U ∧ HH w U.heap n es) (As.map (cv w)) := by
    refine ⟨co_blind, ⟨cell, q1, q2, by rw [hC]; exact q3⟩, fun U hU hW => ⟨?_, KS.warm hW f.2.2.2.2.2.2.2.2, by rw [hU]; exact hh⟩⟩
    rw [cvc]
  refine run_end (va_runV (g := F0 m pc ls ((As.reverse ++ .ref (1000 + (4 + i)) :: rest).map (cv w))) (As := As.map (cv w)) (rest := rest.map (cv w)) ⟨f.1, f.2.1, f.2.2.2.1, ho ▸ f.2.2.2.2.1, hts⟩ hco cw hpre rfl (by simpa using hn) hlv.1 ?_ ?_ hd hf) f hlc hlv kk
  · show (As.reverse ++ .ref (1000 + (4 + i)) :: rest).map (cv w) = _
    rw [List.map_append, cvc, as_rev]
  · show 2 * 0 + _ ≤ 8
    rw [cv_cats]
    omega
theorem rj_copy {own : String} {idx a b n0 n1 : Nat} {f0 f1 : Nat → Int32} {sp dp x : Int32} {rest : List Value} (ho : mi.1.cls = own) (h1 : Cond.methodLink own idx arraycopyName ∈ tG) (h2 : Cond.native arraycopyName ∈ tG) (h3 : Cond.static arraycopyName ∈ tG) (h4 : Cond.initialized "java/lang/System" ∈ tG) (hd : decode mi.2.1 pc = .ok (.invokestatic idx, 3))
    (ha : a < n) (hb : b < n) (hea : es a = .inl (0, n0, .inl f0)) (heb : es b = .inl (0, n1, .inl f1)) (g1 : ¬ sp < 0) (g2 : ¬ dp < 0) (g3 : ¬ x < 0) (g4 : sp.toNatClampNeg + x.toNatClampNeg ≤ n0) (g5 : dp.toNatClampNeg + x.toNatClampNeg ≤ n1) (hR : 1 ≤ R.frames) (hR2 : (rest.map fun v => v.category).sum + (nativeFrameWords "java/lang/System" "arraycopy" 5 + 11) ≤ R.locals)
    (kk : ∀ es', es' = va_up es b (.inl (0, n1, .inl (va_cpy f0 f1 sp.toNatClampNeg dp.toNatClampNeg x.toNatClampNeg))) → RJ w R mi ce sl (pc + 3) lv rest n es' F) : RJ w R mi ce sl pc lv (.int x :: .int dp :: .ref b :: .int sp :: .ref a :: rest) n es F := by
  intro p e s m args below meth c H locs ls f hl hh hlv
  have hts := f.2.2.2.2.2.2.2.1
  have ha1 : a < 1000 := Nat.lt_of_lt_of_le ha hh.1
  have hb1 : b < 1000 := Nat.lt_of_lt_of_le hb hh.1
  have hPa := hh.2.2.2 a ha
  rw [hea] at hPa
  have hca : H[wB w + a]? = some (arrV (wI w) n0 (fun j => .int (f0 j))) := hPa
  have hPb := hh.2.2.2 b hb
  rw [heb] at hPb
  have hcb : H[wB w + b]? = some (arrV (wI w) n1 (fun j => .int (f1 j))) := hPb
  have nn : ∀ z : Int32, ¬ z < 0 → z.toInt = (z.toNatClampNeg : Int) := by
    intro z hz
    have hz0 : (0 : Int) ≤ z.toInt := by
      have := Int32.not_lt.mp hz
      simpa using Int32.le_iff_toInt_le.mp this
    show z.toInt = ((z.toInt.toNat : Nat) : Int)
    omega
  have hK := f.2.2.2.2.2.2.2.2
  obtain ⟨-, k0, hk0, cm0, hkk0⟩ := iI hK n0 (fun j => .int (f0 j))
  obtain ⟨-, k1, hk1, cm1, hkk1⟩ := iI hK n1 (fun j => .int (f1 j))
  show W p (wl w) e R s m args below meth c H locs ce sl (F args s below) (F0 m pc ls (.int x :: .int dp :: cv w (.ref b) :: .int sp :: cv w (.ref a) :: rest.map (cv w)))
  rw [cv_lo w ha1, cv_lo w hb1]
  intro T hT X
  obtain ⟨vm', X', step⟩ := X.arraycopy f.1 (ho ▸ f.2.2.2.2.1) (hts _ h1) (hts _ h2) (hts _ h3) (hts _ h4) (src := wB w + a) (dst := wB w + b) (cs := arrV (wI w) n0 (fun j => .int (f0 j))) (cd := arrV (wI w) n1 (fun j => .int (f1 j))) (srcPos := sp) (destPos := dp) (n := x) (by rw [hT]; exact hca) (by rw [hT]; exact hcb)
    (fun _ h => by cases h) (fun _ h => by cases h) (fun h => by cases h) (fun h => by cases h) hk0 hk1 hkk0 hkk1 (by simp) g1 g2 g3
    (by rw [nn sp g1, nn x g3, arrV_size]; omega)
    (by rw [nn dp g2, nn x g3, arrV_size]; omega)
    (fun vm₁ _ i hi => by
      have e : (arrV (wI w) n0 (fun j => .int (f0 j))).slots.getD (sp.toNatClampNeg + i) .null = .int (f0 (sp.toNatClampNeg + i)) := by
        rw [Array.getD_eq_getD_getElem?, arrV_read _ _ (by omega)]
        rfl
      refine ⟨?_, ?_⟩
      · rw [e]; rfl
      · rw [e]; exact trivial)
    (g := F0 m pc ls (.int x :: .int dp :: .ref (wB w + b) :: .int sp :: .ref (wB w + a) :: rest.map (cv w))) rfl (by rw [f.2.2.2.1]; exact hlv.1) (rest := rest.map (cv w)) rfl (by rw [f.2.1]; exact hd) hR (by show 2 * 0 + _ + _ ≤ _; rw [cv_cats]; omega)
  have e1 : copied (arrV (wI w) n0 (fun j => .int (f0 j))) (arrV (wI w) n1 (fun j => .int (f1 j))) sp dp x = arrV (wI w) n1 (fun j => .int (va_cpy f0 f1 sp.toNatClampNeg dp.toNatClampNeg x.toNatClampNeg j)) := va_copied (fun z => .int z) (wI w) (wI w) f0 f1 g4
  rw [e1] at X' step
  have hlt : wB w + b < H.size := (Array.getElem?_eq_some_iff.mp hcb).1
  have hheap : ((T.setVm vm').setCell (wB w + b) (arrV (wI w) n1 (fun j => .int (va_cpy f0 f1 sp.toNatClampNeg dp.toNatClampNeg x.toNatClampNeg j)))).heap = H.setIfInBounds (wB w + b) (arrV (wI w) n1 (fun j => .int (va_cpy f0 f1 sp.toNatClampNeg dp.toNatClampNeg x.toNatClampNeg j))) := by rw [← hT]; rfl
  have oq : ∀ q : Nat, q ≠ wB w + b → (H.setIfInBounds (wB w + b) (arrV (wI w) n1 (fun j => .int (va_cpy f0 f1 sp.toNatClampNeg dp.toNatClampNeg x.toNatClampNeg j))))[q]? = H[q]? := fun q hq => by simp [Array.getElem?_setIfInBounds, Ne.symm hq]
  obtain ⟨t, a1, b1⟩ := kk _ rfl p e s m args below meth c _ _ ls f (fun q hq => by
      rcases List.mem_append.mp hq with h | h
      · exact hl q h
      · obtain ⟨z, -, hz⟩ := List.mem_map.mp h
        rw [← hz]
        exact Nat.le_add_right _ _) (eup_at hh (by simp) oq (show (H.setIfInBounds (wB w + b) _)[wB w + b]? = some _ by simp [Array.getElem?_setIfInBounds, hlt]; rfl)) hlv _ hheap X'
  exact ⟨t, step t a1, b1⟩
end RULES4
end
section
/-! ===== the cells as they stand once both objects are made: which they are, and what numbers they hold ===== -/
def layL : List (Nat × Nat) := [(10, 11), (1, 1), (12, 7), (5, 7), (2, 6), (12, 192), (12, 192), (12, 3), (0, 4), (12, 8), (12, 8), (12, 8), (12, 8), (3, 5), (12, 6), (12, 72), (12, 72), (12, 72), (12, 12), (12, 10), (5, 7), (2, 6), (12, 192), (12, 192), (12, 3), (0, 4), (12, 8), (12, 8), (12, 8), (12, 8), (3, 5), (12, 6), (12, 72), (12, 72), (12, 72), (12, 12), (12, 10), (7, 2), (12, 100), (4, 5), (13, 4), (6, 3), (12, 40), (6, 3), (12, 40), (6, 3), (12, 40), (6, 3), (12, 40), (2, 6), (12, 192), (12, 192), (12, 3), (8, 4), (12, 65), (8, 4), (12, 65), (9, 1), (12, 192), (11, 21), (12, 658), (12, 658), (12, 7), (12, 100), (12, 65), (12, 65), (12, 192), (12, 4), (12, 4), (12, 160)]
def lay (k : Nat) : Nat × Nat := layL.getD k (12, 0)
def nfl (ci : Nat) : Nat := ([4, 1, 6, 5, 5, 7, 3, 2, 4, 1, 11, 21] : List Nat).getD ci 0
/-- where a field of references leads: to the cell so many on (less 2) -/
def roff (ci j : Nat) : Option Nat := match ci with
  | 0 => some (j + 3)
  | 1 => some 3
  | 2 => if j = 0 then some 3 else if j = 1 then some 4 else if j = 5 then some 5 else none
  | 3 => if j = 0 then none else some (j + 2)
  | 4 => if j = 0 then some 0 else none
  | 5 => if j = 0 then some 3 else if j = 1 then some 7 else if j = 2 then some 12 else if j = 3 then some 17 else if j = 4 then some 18 else none
  | 6 => if j = 2 then some 3 else none
  | 7 => if j = 0 then some 3 else none
  | 8 => if j = 0 then some 3 else none
  | 9 => some 3
  | 10 => if j = 0 then some 3 else if j = 1 then some 5 else if j = 2 then some 22 else if j = 4 then some 39 else if j = 5 then some 41 else if j = 6 then some 42 else if j = 7 then some 51 else if j = 8 then some 55 else if j = 9 then some 57 else if j = 10 then some 59 else none
  | 11 => if j = 0 then some 3 else if j = 1 then some 4 else if j = 3 then some 5 else if j = 5 then some 6 else if j = 12 then some 7 else if j = 16 then some 8 else if j = 17 then some 9 else if j = 18 then some 10 else if j = 19 then some 11 else if j = 20 then some 12 else none
  | _ => none
def fld (f : Nat → Int32) (k ci j : Nat) : Value := match roff ci j with
  | some o => .ref (k + o - 2)
  | none => .int (f j)
def cE (k : Nat) (q : Nat × Nat) (f : Nat → Int32) : va_E := if q.1 = 12 then .inl (0, q.2, .inl f) else if q.1 = 13 then .inl (1, q.2, .inr (.inr (.inr (.inr (fun i => some (k + 1 + 2 * i)))))) else .inr (q.1, (List.range (nfl q.1)).map (fld f k q.1))
def sE (M : Mem) : Ent := fun k => cE k (lay k) (M k)
def mput (M : Mem) (k : Nat) (f : Nat → Int32) : Mem := fun k' => if k' = k then f else M k'
def mset (M : Mem) (k j : Nat) (x : Int32) : Mem := mput M k (upd (M k) j x)
theorem lay_lt {k : Nat} (h : ¬ lay k = (12, 0)) : k < 70 := by
  rcases Nat.lt_or_ge k 70 with q | q
  · exact q
  · exact absurd (show layL.getD k (12, 0) = (12, 0) by rw [List.getD_eq_getElem?_getD, List.getElem?_eq_none (by simpa [layL] using q)]; rfl) h
theorem lay_a {k len : Nat} (h : lay k = (12, len)) (hl : 0 < len) : k < 70 := lay_lt (by rw [h]; intro e; cases e; omega)
theorem lay_o {k ci : Nat} (h : (lay k).1 = ci) (hc : ci < 12) : k < 70 := lay_lt (by intro e; rw [e] at h; simp at h; omega)
theorem sE_a {M : Mem} {k len : Nat} (h : lay k = (12, len)) : sE M k = .inl (0, len, .inl (M k)) := by simp [sE, cE, h]
theorem sE_o {M : Mem} {k ci : Nat} (h : (lay k).1 = ci) (hc : ci < 12) : sE M k = .inr (ci, (List.range (nfl ci)).map (fld (M k) k ci)) := by
  have h1 : ¬ ci = 12 := by omega
  have h2 : ¬ ci = 13 := by omega
  simp [sE, cE, h, h1, h2]
theorem up_a {M : Mem} {k len : Nat} {f : Nat → Int32} (h : lay k = (12, len)) : va_up (sE M) k (.inl (0, len, .inl f)) = sE (mput M k f) := by
  funext q
  by_cases hq : q = k
  · subst hq
    simp [va_up, sE, cE, h, mput]
  · simp [va_up, sE, mput, hq]
theorem up_o {M : Mem} {k ci j : Nat} {x : Int32} (h : (lay k).1 = ci) (hc : ci < 12) (hr : roff ci j = none) : va_up (sE M) k (.inr (ci, ((List.range (nfl ci)).map (fld (M k) k ci)).set j (.int x))) = sE (mset M k j x) := by
  funext q
  by_cases hq : q = k
  · subst hq
    rw [sE_o h hc]
    have e : va_up (sE M) q (.inr (ci, ((List.range (nfl ci)).map (fld (M q) q ci)).set j (.int x))) q = .inr (ci, ((List.range (nfl ci)).map (fld (M q) q ci)).set j (.int x)) := by simp [va_up]
    rw [e]
    congr 2
    apply List.ext_getElem?
    intro i
    by_cases hi : i = j
    · subst hi
      by_cases hl : i < nfl ci
      · rw [List.getElem?_set_self (by simpa using hl), List.getElem?_map, List.getElem?_range hl]
        simp [fld, hr, mset, mput, upd]
      · rw [List.getElem?_eq_none (by simpa using hl), List.getElem?_eq_none (by simpa using hl)]
    · rw [List.getElem?_set_ne (Ne.symm hi), List.getElem?_map, List.getElem?_map]
      by_cases hl : i < nfl ci
      · rw [List.getElem?_range hl]
        simp [fld, mset, mput, upd, hi]
      · rw [List.getElem?_eq_none (by simpa using hl)]
        rfl
  · simp [va_up, sE, mset, mput, hq]
def RS (w : Wd) (R : Room) (mi : MI) (ce sl pc : Nat) (lv : List (Nat × Value)) (st : List Value) (M : Mem) (F : Array Value → State → List Frame → State → Prop) : Prop := RJ w R mi ce sl pc lv st 70 (sE M) F
def lift (P : Option Value → Mem → Prop) : Option Value → Nat → Ent → Prop := fun r n es => ∃ M', n = 70 ∧ es = sE M' ∧ P r M'
/-- contracts once the objects are made: of methods that answer an int, nothing, a text -/
def CS (w : Wd) (h : Nat) (mi : MI) (as : List Value) (M : Mem) (P : Option Value → Mem → Prop) : Prop := CO w h mi 0 0 as 70 (sE M) (lift P)
def CSi (w : Wd) (h : Nat) (mi : MI) (as : List Value) (M : Mem) (K : Int32 → Mem → Prop) : Prop := CS w h mi as M (fun r M' => ∃ x, r = some (.int x) ∧ K x M')
def CSv (w : Wd) (h : Nat) (mi : MI) (as : List Value) (M : Mem) (K : Mem → Prop) : Prop := CS w h mi as M (fun r M' => r = none ∧ K M')
def CSr (w : Wd) (h : Nat) (mi : MI) (as : List Value) (M : Mem) (K : Nat → Mem → Prop) : Prop := CS w h mi as M (fun r M' => ∃ k, r = some (.ref k) ∧ K k M')
/-- a walk in a method once the objects are made -/
abbrev RM (w : Wd) (h : Nat) (mi : MI) (pc : Nat) (lv : List (Nat × Value)) (st : List Value) (M : Mem) (P : Option Value → Mem → Prop) : Prop := RS w (rmk h 0 0) mi 0 0 pc lv st M (FM w 0 0 (lift P))
theorem cs_of {w : Wd} {h : Nat} {mi : MI} {as : List Value} {M : Mem} {P : Option Value → Mem → Prop} (hp : plainName mi.1.cls = true) (hl : (lg_sl as).length ≤ mi.2.2.1) (k : RM w h mi 0 (lv_args 0 as) [] M P) : CS w h mi as M P := co_of hp hl k
section STEADY
variable {w : Wd} {R : Room} {mi : MI} {ce sl pc : Nat} {lv lv' : List (Nat × Value)} {st : List Value} {M : Mem} {F : Array Value → State → List Frame → State → Prop}
theorem rs_getI {own : String} {idx ci j k : Nat} (hF : FL own idx ci j) (hr : roff ci j = none) (hj : j < nfl ci) (hc : ci < 12) (ho : mi.1.cls = own) (hd : decode mi.2.1 pc = .ok (.getfield idx, 3)) (hk : (lay k).1 = ci) (kk : RS w R mi ce sl (pc + 3) lv (.int (M k j) :: st) M F) : RS w R mi ce sl pc lv (.ref k :: st) M F :=
  rj_get hF ho hd (lay_o hk hc) (sE_o hk hc) (by rw [List.getElem?_map, List.getElem?_range hj]; simp [fld, hr]) kk
theorem rs_getR {own : String} {idx ci j k o t : Nat} (hF : FL own idx ci j) (hr : roff ci j = some o) (hj : j < nfl ci) (hc : ci < 12) (ho : mi.1.cls = own) (hd : decode mi.2.1 pc = .ok (.getfield idx, 3)) (hk : (lay k).1 = ci) (ht : k + o - 2 = t) (kk : RS w R mi ce sl (pc + 3) lv (.ref t :: st) M F) : RS w R mi ce sl pc lv (.ref k :: st) M F :=
  rj_get hF ho hd (lay_o hk hc) (sE_o hk hc) (by rw [List.getElem?_map, List.getElem?_range hj]; simp [fld, hr, ht]) kk
theorem rs_putI {own : String} {idx ci j k : Nat} {x : Int32} {ty : FieldType} (hF : FL own idx ci j) (hT : FT ci j ty false own) (hr : roff ci j = none) (hj : j < nfl ci) (hc : ci < 12) (ho : mi.1.cls = own) (hd : decode mi.2.1 pc = .ok (.putfield idx, 3)) (hn : narrow ty (.int x) = .int x) (hfit : fits ty (.int x) = true) (hk : (lay k).1 = ci) (kk : ∀ M', M' = mset M k j x → RS w R mi ce sl (pc + 3) lv st M' F) : RS w R mi ce sl pc lv (.int x :: .ref k :: st) M F :=
  rj_put hF hT ho hd hn hfit (lay_o hk hc) (sE_o hk hc) (by simpa using hj) (fun es' e => by rw [e, up_o hk hc hr]; exact kk _ rfl)
theorem rs_iald {k len : Nat} {i : Int32} (hd : decode mi.2.1 pc = .ok (.iaload, 1)) (hk : lay k = (12, len)) (hin : vp_in i len) (kk : RS w R mi ce sl (pc + 1) lv (.int (M k i.toNatClampNeg) :: st) M F) : RS w R mi ce sl pc lv (.int i :: .ref k :: st) M F :=
  rj_iald hd (lay_a hk (by have : i.toNatClampNeg < len := Nat.not_le.mp fun q => hin (Or.inr q)
                           omega)) (sE_a hk) hin kk
theorem rs_iast {k len : Nat} {i x : Int32} (hd : decode mi.2.1 pc = .ok (.iastore, 1)) (hk : lay k = (12, len)) (hin : vp_in i len) (kk : ∀ M', M' = mset M k i.toNatClampNeg x → RS w R mi ce sl (pc + 1) lv st M' F) : RS w R mi ce sl pc lv (.int x :: .int i :: .ref k :: st) M F :=
  rj_iast hd (lay_a hk (by have : i.toNatClampNeg < len := Nat.not_le.mp fun q => hin (Or.inr q)
                           omega)) (sE_a hk) hin (fun es' e => by rw [e, up_a hk]; exact kk _ rfl)
theorem rs_alen {k len : Nat} {v : Int32} (hd : decode mi.2.1 pc = .ok (.arraylength, 1)) (hk : lay k = (12, len)) (hl : 0 < len) (hv : Int32.ofNat len = v) (kk : RS w R mi ce sl (pc + 1) lv (.int v :: st) M F) : RS w R mi ce sl pc lv (.ref k :: st) M F :=
  rj_alen hd (lay_a hk hl) (sE_a hk) hv kk
/-- the row of sheets: cell 40 -/
theorem rs_aald {i : Int32} (hd : decode mi.2.1 pc = .ok (.aaload, 1)) (hin : vp_in i 4) (kk : RS w R mi ce sl (pc + 1) lv (.ref (41 + 2 * i.toNatClampNeg) :: st) M F) : RS w R mi ce sl pc lv (.int i :: .ref 40 :: st) M F := by
  have hlt : i.toNatClampNeg < 4 := Nat.not_le.mp fun q => hin (Or.inr q)
  exact rj_aald (len := 4) (g := fun i => some (40 + 1 + 2 * i)) hd (by omega) rfl hin rfl (by omega) kk
theorem rs_copy {own : String} {idx a b n0 n1 : Nat} {sp dp x : Int32} {rest : List Value} (ho : mi.1.cls = own) (h1 : Cond.methodLink own idx arraycopyName ∈ tG) (h2 : Cond.native arraycopyName ∈ tG) (h3 : Cond.static arraycopyName ∈ tG) (h4 : Cond.initialized "java/lang/System" ∈ tG) (hd : decode mi.2.1 pc = .ok (.invokestatic idx, 3))
    (hea : lay a = (12, n0)) (heb : lay b = (12, n1)) (hn0 : 0 < n0) (hn1 : 0 < n1) (g1 : ¬ sp < 0) (g2 : ¬ dp < 0) (g3 : ¬ x < 0) (g4 : sp.toNatClampNeg + x.toNatClampNeg ≤ n0) (g5 : dp.toNatClampNeg + x.toNatClampNeg ≤ n1) (hR : 1 ≤ R.frames) (hR2 : (rest.map fun v => v.category).sum + (nativeFrameWords "java/lang/System" "arraycopy" 5 + 11) ≤ R.locals)
    (kk : ∀ M', M' = mput M b (va_cpy (M a) (M b) sp.toNatClampNeg dp.toNatClampNeg x.toNatClampNeg) → RS w R mi ce sl (pc + 3) lv rest M' F) : RS w R mi ce sl pc lv (.int x :: .int dp :: .ref b :: .int sp :: .ref a :: rest) M F :=
  rj_copy ho h1 h2 h3 h4 hd (lay_a hea hn0) (lay_a heb hn1) (sE_a hea) (sE_a heb) g1 g2 g3 g4 g5 hR hR2 (fun es' e => by rw [e, up_a heb]; exact kk _ rfl)
theorem rs_callV {own C : String} {T : u_T} {N idx k h : Nat} {mi2 : MI} {As rest : List Value} {ci np : Nat} {P : Option Value → Mem → Prop} (ho : mi.1.cls = own) (hl : Cond.methodLink own idx mi2.1 ∈ tG) (hm : MV mi2 np) (hd : decode mi.2.1 pc = .ok (.invokevirtual idx, 3)) (hk : (lay k).1 = ci) (hc : vwCl[ci]? = some (C, T, N)) (hC : mi2.1.cls = C) (hst : st = As.reverse ++ .ref k :: rest) (hn : As.length = np) (hw : (rest.map fun v => v.category).sum ≤ 8)
    (hR : h + 1 ≤ R.frames ∧ 8 + (mi2.2.2.1 + 11) + 39 * h ≤ R.locals) (hf : ce ≤ R.cells ∧ sl ≤ R.slots) (hco : CS w h mi2 (.ref k :: As) M P) (kk : ∀ r M', P r M' → RS w R mi ce sl (pc + 3) lv (r.toList ++ rest) M' F) : RS w R mi ce sl pc lv st M F := by
  have hci : ci < 12 := (List.getElem?_eq_some_iff.mp hc).1
  exact rj_callV ho hl hm hd (lay_o hk hci) (sE_o hk hci) hc hC hst hn hw hR hf hco (fun r n' es' hq => by obtain ⟨M', rfl, rfl, hP⟩ := hq; exact kk r M' hP)
theorem rs_callS {own : String} {idx h : Nat} {mi2 : MI} {As rest : List Value} {np : Nat} {P : Option Value → Mem → Prop} (ho : mi.1.cls = own) (hl : Cond.methodLink own idx mi2.1 ∈ tG) (hm : MT mi2 np) (hd : decode mi.2.1 pc = .ok (.invokestatic idx, 3)) (hst : st = As.reverse ++ rest) (hn : As.length = np) (hw : (rest.map fun v => v.category).sum ≤ 8)
    (hR : h + 1 ≤ R.frames ∧ 8 + (mi2.2.2.1 + 11) + 39 * h ≤ R.locals) (hf : ce ≤ R.cells ∧ sl ≤ R.slots) (hco : CS w h mi2 As M P) (kk : ∀ r M', P r M' → RS w R mi ce sl (pc + 3) lv (r.toList ++ rest) M' F) : RS w R mi ce sl pc lv st M F :=
  rj_callS ho hl hm hd hst hn hw hR hf hco (fun r n' es' hq => by obtain ⟨M', rfl, rfl, hP⟩ := hq; exact kk r M' hP)
theorem rs_callSN {own host : String} {idx h : Nat} {mi2 : MI} {As rest : List Value} {np : Nat} {P : Option Value → Mem → Prop} (ho : mi.1.cls = own) (hl : Cond.methodLinkNest own idx mi2.1 host ∈ tN) (hm : MT mi2 np) (hd : decode mi.2.1 pc = .ok (.invokestatic idx, 3)) (hst : st = As.reverse ++ rest) (hn : As.length = np) (hw : (rest.map fun v => v.category).sum ≤ 8)
    (hR : h + 1 ≤ R.frames ∧ 8 + (mi2.2.2.1 + 11) + 39 * h ≤ R.locals) (hf : ce ≤ R.cells ∧ sl ≤ R.slots) (hco : CS w h mi2 As M P) (kk : ∀ r M', P r M' → RS w R mi ce sl (pc + 3) lv (r.toList ++ rest) M' F) : RS w R mi ce sl pc lv st M F :=
  rj_callSN ho hl hm hd hst hn hw hR hf hco (fun r n' es' hq => by obtain ⟨M', rfl, rfl, hP⟩ := hq; exact kk r M' hP)
theorem rs_callT {own : String} {idx i h : Nat} {mi2 : MI} {As rest : List Value} {np : Nat} {P : Option Value → Mem → Prop} (hi : i < 28) (ho : mi.1.cls = own) (hl : Cond.methodLink own idx mi2.1 ∈ tG) (hm : MV mi2 np) (hd : decode mi.2.1 pc = .ok (.invokevirtual idx, 3)) (hC : mi2.1.cls = "java/lang/String") (hst : st = As.reverse ++ .ref (1000 + (4 + i)) :: rest) (hn : As.length = np) (hw : (rest.map fun v => v.category).sum ≤ 8)
    (hR : h + 1 ≤ R.frames ∧ 8 + (mi2.2.2.1 + 11) + 39 * h ≤ R.locals) (hf : ce ≤ R.cells ∧ sl ≤ R.slots) (hco : CS w h mi2 (.ref (1000 + (4 + i)) :: As) M P) (kk : ∀ r M', P r M' → RS w R mi ce sl (pc + 3) lv (r.toList ++ rest) M' F) : RS w R mi ce sl pc lv st M F :=
  rj_callT hi ho hl hm hd hC hst hn hw hR hf hco (fun r n' es' hq => by obtain ⟨M', rfl, rfl, hP⟩ := hq; exact kk r M' hP)
end STEADY
section STEADYRET
variable {w : Wd} {h : Nat} {mi : MI} {pc : Nat} {lv : List (Nat × Value)} {M : Mem} {P : Option Value → Mem → Prop}
theorem rm_iret {x : Int32} {ty : FieldType} (hd : decode mi.2.1 pc = .ok (.ireturn, 1)) (hr : mi.2.2.2 = some ty) (hn : narrow ty (.int x) = .int x) (hq : P (some (.int x)) M) : RM w h mi pc lv [.int x] M P := rj_iret hd hr hn (Nat.le_refl _) (Nat.le_refl _) ⟨M, rfl, rfl, hq⟩
theorem rm_vret (hd : decode mi.2.1 pc = .ok (.return_, 1)) (hr : mi.2.2.2 = none) (hq : P none M) : RM w h mi pc lv [] M P := rj_vret hd hr (Nat.le_refl _) (Nat.le_refl _) ⟨M, rfl, rfl, hq⟩
theorem rm_aret {k : Nat} {C : String} (hd : decode mi.2.1 pc = .ok (.areturn, 1)) (hr : mi.2.2.2 = some (.object C)) (hq : P (some (.ref k)) M) : RM w h mi pc lv [.ref k] M P := rj_aret hd hr (Nat.le_refl _) (Nat.le_refl _) ⟨M, rfl, rfl, hq⟩
end STEADYRET
end
