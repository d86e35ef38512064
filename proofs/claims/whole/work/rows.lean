section
-- ===== PART A: goes FIRST, ahead of the names: the tables' words, and 'selects' of the private methods out of them =====
/-- a private method of a class that the tables say can be made, by its rows of tables_1 -/
def lw_okq (q : MethodName × Nat) : Prop := (q.1.cls ≠ "java/lang/invoke/MethodHandle" ∧ q.1.cls ≠ "java/lang/invoke/VarHandle") ∧ Cond.instantiable q.1.cls q.2 ∈ tables_1 ∧ Cond.privateMethod q.1 ∈ tables_1 ∧ Cond.instanceMethod q.1 ∈ tables_1
theorem lw_p0 : lw_okq (⟨"BagBottom", "failed", "(I)I"⟩, 7) := ⟨⟨by decide +kernel, by decide +kernel⟩, List.mem_of_getElem? (i := 19) (by decide +kernel), List.mem_of_getElem? (i := 273) (by decide +kernel), List.mem_of_getElem? (i := 274) (by decide +kernel)⟩
theorem lw_p1 : lw_okq (⟨"BagBottom$Text", "reads", "(II)Z"⟩, 6) := ⟨⟨by decide +kernel, by decide +kernel⟩, List.mem_of_getElem? (i := 93) (by decide +kernel), List.mem_of_getElem? (i := 391) (by decide +kernel), List.mem_of_getElem? (i := 392) (by decide +kernel)⟩
theorem lw_p2 : lw_okq (⟨"BagBottom$Text", "readsSingle", "(I)Z"⟩, 6) := ⟨⟨by decide +kernel, by decide +kernel⟩, List.mem_of_getElem? (i := 93) (by decide +kernel), List.mem_of_getElem? (i := 395) (by decide +kernel), List.mem_of_getElem? (i := 396) (by decide +kernel)⟩
theorem lw_p3 : lw_okq (⟨"BagBottom$Text", "standsIn", "(Ljava/lang/String;)Z"⟩, 6) := ⟨⟨by decide +kernel, by decide +kernel⟩, List.mem_of_getElem? (i := 93) (by decide +kernel), List.mem_of_getElem? (i := 400) (by decide +kernel), List.mem_of_getElem? (i := 401) (by decide +kernel)⟩
theorem lw_p4 : lw_okq (⟨"BagBottom$Text", "here", "()I"⟩, 6) := ⟨⟨by decide +kernel, by decide +kernel⟩, List.mem_of_getElem? (i := 93) (by decide +kernel), List.mem_of_getElem? (i := 404) (by decide +kernel), List.mem_of_getElem? (i := 405) (by decide +kernel)⟩
theorem lw_p5 : lw_okq (⟨"BagBottom$Text", "readNumber", "()V"⟩, 6) := ⟨⟨by decide +kernel, by decide +kernel⟩, List.mem_of_getElem? (i := 93) (by decide +kernel), List.mem_of_getElem? (i := 493) (by decide +kernel), List.mem_of_getElem? (i := 494) (by decide +kernel)⟩
theorem lw_p6 : lw_okq (⟨"BagBottom$Bag", "draw", "()I"⟩, 11) := ⟨⟨by decide +kernel, by decide +kernel⟩, List.mem_of_getElem? (i := 27) (by decide +kernel), List.mem_of_getElem? (i := 603) (by decide +kernel), List.mem_of_getElem? (i := 604) (by decide +kernel)⟩
theorem lw_p7 : lw_okq (⟨"BagBottom$Thought", "learnUses", "(LBagBottom$Bag;)V"⟩, 5) := ⟨⟨by decide +kernel, by decide +kernel⟩, List.mem_of_getElem? (i := 199) (by decide +kernel), List.mem_of_getElem? (i := 646) (by decide +kernel), List.mem_of_getElem? (i := 647) (by decide +kernel)⟩
theorem lw_p8 : lw_okq (⟨"BagBottom$Thought", "costOfStart", "(LBagBottom$Bag;I)I"⟩, 5) := ⟨⟨by decide +kernel, by decide +kernel⟩, List.mem_of_getElem? (i := 199) (by decide +kernel), List.mem_of_getElem? (i := 658) (by decide +kernel), List.mem_of_getElem? (i := 659) (by decide +kernel)⟩
theorem lw_p9 : lw_okq (⟨"BagBottom$Thought", "timeWithout", "(LBagBottom$Row;II)I"⟩, 5) := ⟨⟨by decide +kernel, by decide +kernel⟩, List.mem_of_getElem? (i := 199) (by decide +kernel), List.mem_of_getElem? (i := 684) (by decide +kernel), List.mem_of_getElem? (i := 685) (by decide +kernel)⟩
theorem lw_p10 : lw_okq (⟨"BagBottom$Voices", "speak", "(IIII)I"⟩, 5) := ⟨⟨by decide +kernel, by decide +kernel⟩, List.mem_of_getElem? (i := 173) (by decide +kernel), List.mem_of_getElem? (i := 730) (by decide +kernel), List.mem_of_getElem? (i := 731) (by decide +kernel)⟩
theorem lw_p11 : lw_okq (⟨"BagBottom$Voices", "partedBy", "(II)I"⟩, 5) := ⟨⟨by decide +kernel, by decide +kernel⟩, List.mem_of_getElem? (i := 173) (by decide +kernel), List.mem_of_getElem? (i := 741) (by decide +kernel), List.mem_of_getElem? (i := 742) (by decide +kernel)⟩
theorem lw_p12 : lw_okq (⟨"BagBottomModel", "error", "(I)I"⟩, 23) := ⟨⟨by decide +kernel, by decide +kernel⟩, List.mem_of_getElem? (i := 828) (by decide +kernel), List.mem_of_getElem? (i := 915) (by decide +kernel), List.mem_of_getElem? (i := 916) (by decide +kernel)⟩
theorem lw_p13 : lw_okq (⟨"BagBottomModel", "goesOnTop", "(I)V"⟩, 23) := ⟨⟨by decide +kernel, by decide +kernel⟩, List.mem_of_getElem? (i := 828) (by decide +kernel), List.mem_of_getElem? (i := 921) (by decide +kernel), List.mem_of_getElem? (i := 922) (by decide +kernel)⟩
theorem lw_p14 : lw_okq (⟨"BagBottomModel", "isThing", "(I)Z"⟩, 23) := ⟨⟨by decide +kernel, by decide +kernel⟩, List.mem_of_getElem? (i := 828) (by decide +kernel), List.mem_of_getElem? (i := 929) (by decide +kernel), List.mem_of_getElem? (i := 930) (by decide +kernel)⟩
theorem lw_p15 : lw_okq (⟨"BagBottomModel", "of", "(II)I"⟩, 23) := ⟨⟨by decide +kernel, by decide +kernel⟩, List.mem_of_getElem? (i := 828) (by decide +kernel), List.mem_of_getElem? (i := 933) (by decide +kernel), List.mem_of_getElem? (i := 934) (by decide +kernel)⟩
def lw_privs_1 : List (MethodName × Nat) := [(⟨"BagBottom", "failed", "(I)I"⟩, 7), (⟨"BagBottom$Text", "reads", "(II)Z"⟩, 6), (⟨"BagBottom$Text", "readsSingle", "(I)Z"⟩, 6), (⟨"BagBottom$Text", "standsIn", "(Ljava/lang/String;)Z"⟩, 6), (⟨"BagBottom$Text", "here", "()I"⟩, 6), (⟨"BagBottom$Text", "readNumber", "()V"⟩, 6), (⟨"BagBottom$Bag", "draw", "()I"⟩, 11), (⟨"BagBottom$Thought", "learnUses", "(LBagBottom$Bag;)V"⟩, 5), (⟨"BagBottom$Thought", "costOfStart", "(LBagBottom$Bag;I)I"⟩, 5), (⟨"BagBottom$Thought", "timeWithout", "(LBagBottom$Row;II)I"⟩, 5), (⟨"BagBottom$Voices", "speak", "(IIII)I"⟩, 5), (⟨"BagBottom$Voices", "partedBy", "(II)I"⟩, 5), (⟨"BagBottomModel", "error", "(I)I"⟩, 23), (⟨"BagBottomModel", "goesOnTop", "(I)V"⟩, 23), (⟨"BagBottomModel", "isThing", "(I)Z"⟩, 23), (⟨"BagBottomModel", "of", "(II)I"⟩, 23)]
theorem lw_r1 : ∀ q ∈ lw_privs_1, lw_okq q := List.forall_mem_cons.mpr ⟨lw_p0, List.forall_mem_cons.mpr ⟨lw_p1, List.forall_mem_cons.mpr ⟨lw_p2, List.forall_mem_cons.mpr ⟨lw_p3, List.forall_mem_cons.mpr ⟨lw_p4, List.forall_mem_cons.mpr ⟨lw_p5, List.forall_mem_cons.mpr ⟨lw_p6, List.forall_mem_cons.mpr ⟨lw_p7, List.forall_mem_cons.mpr ⟨lw_p8, List.forall_mem_cons.mpr ⟨lw_p9, List.forall_mem_cons.mpr ⟨lw_p10, List.forall_mem_cons.mpr ⟨lw_p11, List.forall_mem_cons.mpr ⟨lw_p12, List.forall_mem_cons.mpr ⟨lw_p13, List.forall_mem_cons.mpr ⟨lw_p14, List.forall_mem_cons.mpr ⟨lw_p15, fun _ h => absurd h List.not_mem_nil⟩⟩⟩⟩⟩⟩⟩⟩⟩⟩⟩⟩⟩⟩⟩⟩
theorem lw_p16 : lw_okq (⟨"BagBottomModel", "whereIs", "(I)I"⟩, 23) := ⟨⟨by decide +kernel, by decide +kernel⟩, List.mem_of_getElem? (i := 828) (by decide +kernel), List.mem_of_getElem? (i := 937) (by decide +kernel), List.mem_of_getElem? (i := 938) (by decide +kernel)⟩
theorem lw_p17 : lw_okq (⟨"BagBottomModel", "sinksOf", "(I)I"⟩, 23) := ⟨⟨by decide +kernel, by decide +kernel⟩, List.mem_of_getElem? (i := 828) (by decide +kernel), List.mem_of_getElem? (i := 941) (by decide +kernel), List.mem_of_getElem? (i := 942) (by decide +kernel)⟩
theorem lw_p18 : lw_okq (⟨"BagBottomModel", "feelsOf", "(I)I"⟩, 23) := ⟨⟨by decide +kernel, by decide +kernel⟩, List.mem_of_getElem? (i := 828) (by decide +kernel), List.mem_of_getElem? (i := 945) (by decide +kernel), List.mem_of_getElem? (i := 946) (by decide +kernel)⟩
theorem lw_p19 : lw_okq (⟨"BagBottomModel", "becomes", "(II)I"⟩, 23) := ⟨⟨by decide +kernel, by decide +kernel⟩, List.mem_of_getElem? (i := 828) (by decide +kernel), List.mem_of_getElem? (i := 953) (by decide +kernel), List.mem_of_getElem? (i := 954) (by decide +kernel)⟩
theorem lw_p20 : lw_okq (⟨"BagBottomModel", "goesFrom", "(I)V"⟩, 23) := ⟨⟨by decide +kernel, by decide +kernel⟩, List.mem_of_getElem? (i := 828) (by decide +kernel), List.mem_of_getElem? (i := 975) (by decide +kernel), List.mem_of_getElem? (i := 976) (by decide +kernel)⟩
theorem lw_p21 : lw_okq (⟨"BagBottomModel", "any", "()V"⟩, 23) := ⟨⟨by decide +kernel, by decide +kernel⟩, List.mem_of_getElem? (i := 828) (by decide +kernel), List.mem_of_getElem? (i := 996) (by decide +kernel), List.mem_of_getElem? (i := 997) (by decide +kernel)⟩
theorem lw_p22 : lw_okq (⟨"BagBottomModel", "all", "()V"⟩, 23) := ⟨⟨by decide +kernel, by decide +kernel⟩, List.mem_of_getElem? (i := 828) (by decide +kernel), List.mem_of_getElem? (i := 1000) (by decide +kernel), List.mem_of_getElem? (i := 1001) (by decide +kernel)⟩
theorem lw_p23 : lw_okq (⟨"BagBottomModel", "compares", "()V"⟩, 23) := ⟨⟨by decide +kernel, by decide +kernel⟩, List.mem_of_getElem? (i := 828) (by decide +kernel), List.mem_of_getElem? (i := 1004) (by decide +kernel), List.mem_of_getElem? (i := 1005) (by decide +kernel)⟩
theorem lw_p24 : lw_okq (⟨"BagBottomModel", "sum", "()V"⟩, 23) := ⟨⟨by decide +kernel, by decide +kernel⟩, List.mem_of_getElem? (i := 828) (by decide +kernel), List.mem_of_getElem? (i := 1008) (by decide +kernel), List.mem_of_getElem? (i := 1009) (by decide +kernel)⟩
theorem lw_p25 : lw_okq (⟨"BagBottomModel", "times", "()V"⟩, 23) := ⟨⟨by decide +kernel, by decide +kernel⟩, List.mem_of_getElem? (i := 828) (by decide +kernel), List.mem_of_getElem? (i := 1012) (by decide +kernel), List.mem_of_getElem? (i := 1013) (by decide +kernel)⟩
theorem lw_p26 : lw_okq (⟨"BagBottomModel", "one", "()V"⟩, 23) := ⟨⟨by decide +kernel, by decide +kernel⟩, List.mem_of_getElem? (i := 828) (by decide +kernel), List.mem_of_getElem? (i := 1016) (by decide +kernel), List.mem_of_getElem? (i := 1017) (by decide +kernel)⟩
theorem lw_p27 : lw_okq (⟨"BagBottomModel", "look", "()I"⟩, 23) := ⟨⟨by decide +kernel, by decide +kernel⟩, List.mem_of_getElem? (i := 828) (by decide +kernel), List.mem_of_getElem? (i := 1020) (by decide +kernel), List.mem_of_getElem? (i := 1021) (by decide +kernel)⟩
theorem lw_p28 : lw_okq (⟨"BagBottomModel", "nameOf", "(I)I"⟩, 23) := ⟨⟨by decide +kernel, by decide +kernel⟩, List.mem_of_getElem? (i := 828) (by decide +kernel), List.mem_of_getElem? (i := 1024) (by decide +kernel), List.mem_of_getElem? (i := 1025) (by decide +kernel)⟩
theorem lw_p29 : lw_okq (⟨"BagBottomModel", "step", "(II)V"⟩, 23) := ⟨⟨by decide +kernel, by decide +kernel⟩, List.mem_of_getElem? (i := 828) (by decide +kernel), List.mem_of_getElem? (i := 1028) (by decide +kernel), List.mem_of_getElem? (i := 1029) (by decide +kernel)⟩
theorem lw_p30 : lw_okq (⟨"BagBottomModel", "opens", "(I)V"⟩, 23) := ⟨⟨by decide +kernel, by decide +kernel⟩, List.mem_of_getElem? (i := 828) (by decide +kernel), List.mem_of_getElem? (i := 1032) (by decide +kernel), List.mem_of_getElem? (i := 1033) (by decide +kernel)⟩
theorem lw_p31 : lw_okq (⟨"BagBottomModel", "number", "()V"⟩, 23) := ⟨⟨by decide +kernel, by decide +kernel⟩, List.mem_of_getElem? (i := 828) (by decide +kernel), List.mem_of_getElem? (i := 1036) (by decide +kernel), List.mem_of_getElem? (i := 1037) (by decide +kernel)⟩
def lw_privs_2 : List (MethodName × Nat) := [(⟨"BagBottomModel", "whereIs", "(I)I"⟩, 23), (⟨"BagBottomModel", "sinksOf", "(I)I"⟩, 23), (⟨"BagBottomModel", "feelsOf", "(I)I"⟩, 23), (⟨"BagBottomModel", "becomes", "(II)I"⟩, 23), (⟨"BagBottomModel", "goesFrom", "(I)V"⟩, 23), (⟨"BagBottomModel", "any", "()V"⟩, 23), (⟨"BagBottomModel", "all", "()V"⟩, 23), (⟨"BagBottomModel", "compares", "()V"⟩, 23), (⟨"BagBottomModel", "sum", "()V"⟩, 23), (⟨"BagBottomModel", "times", "()V"⟩, 23), (⟨"BagBottomModel", "one", "()V"⟩, 23), (⟨"BagBottomModel", "look", "()I"⟩, 23), (⟨"BagBottomModel", "nameOf", "(I)I"⟩, 23), (⟨"BagBottomModel", "step", "(II)V"⟩, 23), (⟨"BagBottomModel", "opens", "(I)V"⟩, 23), (⟨"BagBottomModel", "number", "()V"⟩, 23)]
theorem lw_r2 : ∀ q ∈ lw_privs_2, lw_okq q := List.forall_mem_cons.mpr ⟨lw_p16, List.forall_mem_cons.mpr ⟨lw_p17, List.forall_mem_cons.mpr ⟨lw_p18, List.forall_mem_cons.mpr ⟨lw_p19, List.forall_mem_cons.mpr ⟨lw_p20, List.forall_mem_cons.mpr ⟨lw_p21, List.forall_mem_cons.mpr ⟨lw_p22, List.forall_mem_cons.mpr ⟨lw_p23, List.forall_mem_cons.mpr ⟨lw_p24, List.forall_mem_cons.mpr ⟨lw_p25, List.forall_mem_cons.mpr ⟨lw_p26, List.forall_mem_cons.mpr ⟨lw_p27, List.forall_mem_cons.mpr ⟨lw_p28, List.forall_mem_cons.mpr ⟨lw_p29, List.forall_mem_cons.mpr ⟨lw_p30, List.forall_mem_cons.mpr ⟨lw_p31, fun _ h => absurd h List.not_mem_nil⟩⟩⟩⟩⟩⟩⟩⟩⟩⟩⟩⟩⟩⟩⟩⟩
theorem lw_p32 : lw_okq (⟨"BagBottomModel", "gives", "(IIII)I"⟩, 23) := ⟨⟨by decide +kernel, by decide +kernel⟩, List.mem_of_getElem? (i := 828) (by decide +kernel), List.mem_of_getElem? (i := 1048) (by decide +kernel), List.mem_of_getElem? (i := 1049) (by decide +kernel)⟩
theorem lw_p33 : lw_okq (⟨"BagBottomModel", "works", "(I)I"⟩, 23) := ⟨⟨by decide +kernel, by decide +kernel⟩, List.mem_of_getElem? (i := 828) (by decide +kernel), List.mem_of_getElem? (i := 1052) (by decide +kernel), List.mem_of_getElem? (i := 1053) (by decide +kernel)⟩
theorem lw_p34 : lw_okq (⟨"BagBottomModel", "timeOf", "(II)I"⟩, 23) := ⟨⟨by decide +kernel, by decide +kernel⟩, List.mem_of_getElem? (i := 828) (by decide +kernel), List.mem_of_getElem? (i := 1066) (by decide +kernel), List.mem_of_getElem? (i := 1067) (by decide +kernel)⟩
theorem lw_p35 : lw_okq (⟨"BagBottomModel", "feelingTo", "(I)I"⟩, 23) := ⟨⟨by decide +kernel, by decide +kernel⟩, List.mem_of_getElem? (i := 828) (by decide +kernel), List.mem_of_getElem? (i := 1070) (by decide +kernel), List.mem_of_getElem? (i := 1071) (by decide +kernel)⟩
theorem lw_p36 : lw_okq (⟨"BagBottomModel", "bestWay", "(I)I"⟩, 23) := ⟨⟨by decide +kernel, by decide +kernel⟩, List.mem_of_getElem? (i := 828) (by decide +kernel), List.mem_of_getElem? (i := 1078) (by decide +kernel), List.mem_of_getElem? (i := 1079) (by decide +kernel)⟩
theorem lw_p37 : lw_okq (⟨"BagBottomModel", "taken", "(II)I"⟩, 23) := ⟨⟨by decide +kernel, by decide +kernel⟩, List.mem_of_getElem? (i := 828) (by decide +kernel), List.mem_of_getElem? (i := 1086) (by decide +kernel), List.mem_of_getElem? (i := 1087) (by decide +kernel)⟩
theorem lw_p38 : lw_okq (⟨"BagBottomModel", "turnsOver", "()V"⟩, 23) := ⟨⟨by decide +kernel, by decide +kernel⟩, List.mem_of_getElem? (i := 828) (by decide +kernel), List.mem_of_getElem? (i := 1091) (by decide +kernel), List.mem_of_getElem? (i := 1092) (by decide +kernel)⟩
theorem lw_p39 : lw_okq (⟨"BagBottomModel", "steps", "(I)V"⟩, 23) := ⟨⟨by decide +kernel, by decide +kernel⟩, List.mem_of_getElem? (i := 828) (by decide +kernel), List.mem_of_getElem? (i := 1099) (by decide +kernel), List.mem_of_getElem? (i := 1100) (by decide +kernel)⟩
theorem lw_p40 : lw_okq (⟨"BagBottomModel", "aStep", "()Z"⟩, 23) := ⟨⟨by decide +kernel, by decide +kernel⟩, List.mem_of_getElem? (i := 828) (by decide +kernel), List.mem_of_getElem? (i := 1103) (by decide +kernel), List.mem_of_getElem? (i := 1104) (by decide +kernel)⟩
theorem lw_p41 : lw_okq (⟨"BagBottomModel", "drawn", "()V"⟩, 23) := ⟨⟨by decide +kernel, by decide +kernel⟩, List.mem_of_getElem? (i := 828) (by decide +kernel), List.mem_of_getElem? (i := 1111) (by decide +kernel), List.mem_of_getElem? (i := 1112) (by decide +kernel)⟩
theorem lw_p42 : lw_okq (⟨"BagBottomModel", "draw", "()I"⟩, 23) := ⟨⟨by decide +kernel, by decide +kernel⟩, List.mem_of_getElem? (i := 828) (by decide +kernel), List.mem_of_getElem? (i := 1115) (by decide +kernel), List.mem_of_getElem? (i := 1116) (by decide +kernel)⟩
theorem lw_p43 : lw_okq (⟨"BagBottomModel", "thinks", "()V"⟩, 23) := ⟨⟨by decide +kernel, by decide +kernel⟩, List.mem_of_getElem? (i := 828) (by decide +kernel), List.mem_of_getElem? (i := 1128) (by decide +kernel), List.mem_of_getElem? (i := 1129) (by decide +kernel)⟩
theorem lw_p44 : lw_okq (⟨"BagBottomModel", "putsBack", "()V"⟩, 23) := ⟨⟨by decide +kernel, by decide +kernel⟩, List.mem_of_getElem? (i := 828) (by decide +kernel), List.mem_of_getElem? (i := 1135) (by decide +kernel), List.mem_of_getElem? (i := 1136) (by decide +kernel)⟩
theorem lw_p45 : lw_okq (⟨"BagBottomModel", "inside", "()I"⟩, 23) := ⟨⟨by decide +kernel, by decide +kernel⟩, List.mem_of_getElem? (i := 828) (by decide +kernel), List.mem_of_getElem? (i := 1148) (by decide +kernel), List.mem_of_getElem? (i := 1149) (by decide +kernel)⟩
theorem lw_p46 : lw_okq (⟨"BagBottomModel", "packs", "(III)V"⟩, 23) := ⟨⟨by decide +kernel, by decide +kernel⟩, List.mem_of_getElem? (i := 828) (by decide +kernel), List.mem_of_getElem? (i := 1152) (by decide +kernel), List.mem_of_getElem? (i := 1153) (by decide +kernel)⟩
theorem lw_p47 : lw_okq (⟨"BagBottomModel", "packing", "(I)I"⟩, 23) := ⟨⟨by decide +kernel, by decide +kernel⟩, List.mem_of_getElem? (i := 828) (by decide +kernel), List.mem_of_getElem? (i := 1156) (by decide +kernel), List.mem_of_getElem? (i := 1157) (by decide +kernel)⟩
def lw_privs_3 : List (MethodName × Nat) := [(⟨"BagBottomModel", "gives", "(IIII)I"⟩, 23), (⟨"BagBottomModel", "works", "(I)I"⟩, 23), (⟨"BagBottomModel", "timeOf", "(II)I"⟩, 23), (⟨"BagBottomModel", "feelingTo", "(I)I"⟩, 23), (⟨"BagBottomModel", "bestWay", "(I)I"⟩, 23), (⟨"BagBottomModel", "taken", "(II)I"⟩, 23), (⟨"BagBottomModel", "turnsOver", "()V"⟩, 23), (⟨"BagBottomModel", "steps", "(I)V"⟩, 23), (⟨"BagBottomModel", "aStep", "()Z"⟩, 23), (⟨"BagBottomModel", "drawn", "()V"⟩, 23), (⟨"BagBottomModel", "draw", "()I"⟩, 23), (⟨"BagBottomModel", "thinks", "()V"⟩, 23), (⟨"BagBottomModel", "putsBack", "()V"⟩, 23), (⟨"BagBottomModel", "inside", "()I"⟩, 23), (⟨"BagBottomModel", "packs", "(III)V"⟩, 23), (⟨"BagBottomModel", "packing", "(I)I"⟩, 23)]
theorem lw_r3 : ∀ q ∈ lw_privs_3, lw_okq q := List.forall_mem_cons.mpr ⟨lw_p32, List.forall_mem_cons.mpr ⟨lw_p33, List.forall_mem_cons.mpr ⟨lw_p34, List.forall_mem_cons.mpr ⟨lw_p35, List.forall_mem_cons.mpr ⟨lw_p36, List.forall_mem_cons.mpr ⟨lw_p37, List.forall_mem_cons.mpr ⟨lw_p38, List.forall_mem_cons.mpr ⟨lw_p39, List.forall_mem_cons.mpr ⟨lw_p40, List.forall_mem_cons.mpr ⟨lw_p41, List.forall_mem_cons.mpr ⟨lw_p42, List.forall_mem_cons.mpr ⟨lw_p43, List.forall_mem_cons.mpr ⟨lw_p44, List.forall_mem_cons.mpr ⟨lw_p45, List.forall_mem_cons.mpr ⟨lw_p46, List.forall_mem_cons.mpr ⟨lw_p47, fun _ h => absurd h List.not_mem_nil⟩⟩⟩⟩⟩⟩⟩⟩⟩⟩⟩⟩⟩⟩⟩⟩
theorem lw_p48 : lw_okq (⟨"BagBottomModel", "usedOf", "(I)I"⟩, 23) := ⟨⟨by decide +kernel, by decide +kernel⟩, List.mem_of_getElem? (i := 828) (by decide +kernel), List.mem_of_getElem? (i := 1160) (by decide +kernel), List.mem_of_getElem? (i := 1161) (by decide +kernel)⟩
theorem lw_p49 : lw_okq (⟨"BagBottomModel", "notThere", "(I)I"⟩, 23) := ⟨⟨by decide +kernel, by decide +kernel⟩, List.mem_of_getElem? (i := 828) (by decide +kernel), List.mem_of_getElem? (i := 1179) (by decide +kernel), List.mem_of_getElem? (i := 1180) (by decide +kernel)⟩
theorem lw_p50 : lw_okq (⟨"BagBottomModel", "rightOf", "(I)I"⟩, 23) := ⟨⟨by decide +kernel, by decide +kernel⟩, List.mem_of_getElem? (i := 828) (by decide +kernel), List.mem_of_getElem? (i := 1186) (by decide +kernel), List.mem_of_getElem? (i := 1187) (by decide +kernel)⟩
theorem lw_p51 : lw_okq (⟨"BagBottomModel", "rattles", "(II)I"⟩, 23) := ⟨⟨by decide +kernel, by decide +kernel⟩, List.mem_of_getElem? (i := 828) (by decide +kernel), List.mem_of_getElem? (i := 1194) (by decide +kernel), List.mem_of_getElem? (i := 1195) (by decide +kernel)⟩
theorem lw_p52 : lw_okq (⟨"BagBottomModel", "keysRattles", "(II)I"⟩, 23) := ⟨⟨by decide +kernel, by decide +kernel⟩, List.mem_of_getElem? (i := 828) (by decide +kernel), List.mem_of_getElem? (i := 1198) (by decide +kernel), List.mem_of_getElem? (i := 1199) (by decide +kernel)⟩
theorem lw_p53 : lw_okq (⟨"BagBottomModel", "begins", "(I)V"⟩, 23) := ⟨⟨by decide +kernel, by decide +kernel⟩, List.mem_of_getElem? (i := 828) (by decide +kernel), List.mem_of_getElem? (i := 1202) (by decide +kernel), List.mem_of_getElem? (i := 1203) (by decide +kernel)⟩
theorem lw_p54 : lw_okq (⟨"BagBottomModel", "plainRattles", "(II)I"⟩, 23) := ⟨⟨by decide +kernel, by decide +kernel⟩, List.mem_of_getElem? (i := 828) (by decide +kernel), List.mem_of_getElem? (i := 1206) (by decide +kernel), List.mem_of_getElem? (i := 1207) (by decide +kernel)⟩
theorem lw_p55 : lw_okq (⟨"BagBottomModel", "rustles", "(II)I"⟩, 23) := ⟨⟨by decide +kernel, by decide +kernel⟩, List.mem_of_getElem? (i := 828) (by decide +kernel), List.mem_of_getElem? (i := 1210) (by decide +kernel), List.mem_of_getElem? (i := 1211) (by decide +kernel)⟩
theorem lw_p56 : lw_okq (⟨"BagBottomModel", "paperRustles", "(II)I"⟩, 23) := ⟨⟨by decide +kernel, by decide +kernel⟩, List.mem_of_getElem? (i := 828) (by decide +kernel), List.mem_of_getElem? (i := 1214) (by decide +kernel), List.mem_of_getElem? (i := 1215) (by decide +kernel)⟩
theorem lw_p57 : lw_okq (⟨"BagBottomModel", "plainRustles", "(II)I"⟩, 23) := ⟨⟨by decide +kernel, by decide +kernel⟩, List.mem_of_getElem? (i := 828) (by decide +kernel), List.mem_of_getElem? (i := 1218) (by decide +kernel), List.mem_of_getElem? (i := 1219) (by decide +kernel)⟩
theorem lw_p58 : lw_okq (⟨"BagBottomModel", "rings", "(II)I"⟩, 23) := ⟨⟨by decide +kernel, by decide +kernel⟩, List.mem_of_getElem? (i := 828) (by decide +kernel), List.mem_of_getElem? (i := 1222) (by decide +kernel), List.mem_of_getElem? (i := 1223) (by decide +kernel)⟩
theorem lw_p59 : lw_okq (⟨"BagBottomModel", "plainRings", "(II)I"⟩, 23) := ⟨⟨by decide +kernel, by decide +kernel⟩, List.mem_of_getElem? (i := 828) (by decide +kernel), List.mem_of_getElem? (i := 1226) (by decide +kernel), List.mem_of_getElem? (i := 1227) (by decide +kernel)⟩
theorem lw_p60 : lw_okq (⟨"BagBottomModel", "parts", "(II)I"⟩, 23) := ⟨⟨by decide +kernel, by decide +kernel⟩, List.mem_of_getElem? (i := 828) (by decide +kernel), List.mem_of_getElem? (i := 1230) (by decide +kernel), List.mem_of_getElem? (i := 1231) (by decide +kernel)⟩
theorem lw_p61 : lw_okq (⟨"BagBottomModel", "plainParts", "(II)I"⟩, 23) := ⟨⟨by decide +kernel, by decide +kernel⟩, List.mem_of_getElem? (i := 828) (by decide +kernel), List.mem_of_getElem? (i := 1234) (by decide +kernel), List.mem_of_getElem? (i := 1235) (by decide +kernel)⟩
theorem lw_p62 : lw_okq (⟨"BagBottomModel", "notMoved", "(IIIII)I"⟩, 23) := ⟨⟨by decide +kernel, by decide +kernel⟩, List.mem_of_getElem? (i := 828) (by decide +kernel), List.mem_of_getElem? (i := 1255) (by decide +kernel), List.mem_of_getElem? (i := 1256) (by decide +kernel)⟩
def lw_privs_4 : List (MethodName × Nat) := [(⟨"BagBottomModel", "usedOf", "(I)I"⟩, 23), (⟨"BagBottomModel", "notThere", "(I)I"⟩, 23), (⟨"BagBottomModel", "rightOf", "(I)I"⟩, 23), (⟨"BagBottomModel", "rattles", "(II)I"⟩, 23), (⟨"BagBottomModel", "keysRattles", "(II)I"⟩, 23), (⟨"BagBottomModel", "begins", "(I)V"⟩, 23), (⟨"BagBottomModel", "plainRattles", "(II)I"⟩, 23), (⟨"BagBottomModel", "rustles", "(II)I"⟩, 23), (⟨"BagBottomModel", "paperRustles", "(II)I"⟩, 23), (⟨"BagBottomModel", "plainRustles", "(II)I"⟩, 23), (⟨"BagBottomModel", "rings", "(II)I"⟩, 23), (⟨"BagBottomModel", "plainRings", "(II)I"⟩, 23), (⟨"BagBottomModel", "parts", "(II)I"⟩, 23), (⟨"BagBottomModel", "plainParts", "(II)I"⟩, 23), (⟨"BagBottomModel", "notMoved", "(IIIII)I"⟩, 23)]
theorem lw_r4 : ∀ q ∈ lw_privs_4, lw_okq q := List.forall_mem_cons.mpr ⟨lw_p48, List.forall_mem_cons.mpr ⟨lw_p49, List.forall_mem_cons.mpr ⟨lw_p50, List.forall_mem_cons.mpr ⟨lw_p51, List.forall_mem_cons.mpr ⟨lw_p52, List.forall_mem_cons.mpr ⟨lw_p53, List.forall_mem_cons.mpr ⟨lw_p54, List.forall_mem_cons.mpr ⟨lw_p55, List.forall_mem_cons.mpr ⟨lw_p56, List.forall_mem_cons.mpr ⟨lw_p57, List.forall_mem_cons.mpr ⟨lw_p58, List.forall_mem_cons.mpr ⟨lw_p59, List.forall_mem_cons.mpr ⟨lw_p60, List.forall_mem_cons.mpr ⟨lw_p61, List.forall_mem_cons.mpr ⟨lw_p62, fun _ h => absurd h List.not_mem_nil⟩⟩⟩⟩⟩⟩⟩⟩⟩⟩⟩⟩⟩⟩⟩
def lw_privs : List (MethodName × Nat) := lw_privs_1 ++ (lw_privs_2 ++ (lw_privs_3 ++ (lw_privs_4)))
def lw_tbl : List Cond := k2_sels lw_privs ++ tables_1
theorem lw_privs_ok : ∀ q ∈ lw_privs, lw_okq q := by
  show ∀ q ∈ lw_privs_1 ++ (lw_privs_2 ++ (lw_privs_3 ++ (lw_privs_4))), lw_okq q
  exact List.forall_mem_append.mpr ⟨lw_r1, List.forall_mem_append.mpr ⟨lw_r2, List.forall_mem_append.mpr ⟨lw_r3, lw_r4⟩⟩⟩
end
section
def RX0 : String := "BagBottom$Bag"
def TX0 : u_T := fun k => match k with
  | 0 => ("BagBottom$Bag", "things", "[LBagBottom$Thing;", true)
  | 1 => ("BagBottom$Bag", "known", "I", false)
  | 2 => ("BagBottom$Bag", "order", "LBagBottom$Row;", true)
  | 3 => ("BagBottom$Bag", "pocket", "I", false)
  | 4 => ("BagBottom$Bag", "steps", "I", false)
  | 5 => ("BagBottom$Bag", "seconds", "I", false)
  | 6 => ("BagBottom$Bag", "z", "I", false)
  | 7 => ("BagBottom$Bag", "tape", "LBagBottom$Row;", true)
  | 8 => ("BagBottom$Bag", "texts", "[LBagBottom$Text;", true)
  | 9 => ("BagBottom$Bag", "waiting", "LBagBottom$Row;", true)
  | _ => ("BagBottom$Bag", "sinkRows", "[I", true)
def tyX0 : Nat → FieldType := fun k => match k with
  | 0 => .array (.object "BagBottom$Thing")
  | 1 => .int
  | 2 => .object "BagBottom$Row"
  | 3 => .int
  | 4 => .int
  | 5 => .int
  | 6 => .int
  | 7 => .object "BagBottom$Row"
  | 8 => .array (.object "BagBottom$Text")
  | 9 => .object "BagBottom$Row"
  | _ => .array .int
theorem nmX0 : ∀ a, a < 11 → ∀ b, b < 11 → a ≠ b → (TX0 a).2.1 ≠ (TX0 b).2.1 := by decide +kernel
theorem tyX0_ok : ∀ k, k < 11 → parseFieldDescriptor (TX0 k).2.2.1 = some (tyX0 k) := by decide +kernel
abbrev cX0_init : ByteArray := prog_2_method_1_code
def yX0_init : MethodName := ⟨RX0, "<init>", "()V"⟩
abbrev cX0_knows : ByteArray := prog_2_method_2_code
def yX0_knows : MethodName := ⟨RX0, "knows", "(I)Z"⟩
abbrev cX0_addThing : ByteArray := prog_2_method_3_code
def yX0_addThing : MethodName := ⟨RX0, "addThing", "(III)I"⟩
abbrev cX0_whereIs : ByteArray := prog_2_method_4_code
def yX0_whereIs : MethodName := ⟨RX0, "whereIs", "(I)I"⟩
abbrev cX0_bringOut : ByteArray := prog_2_method_5_code
def yX0_bringOut : MethodName := ⟨RX0, "bringOut", "(I)V"⟩
abbrev cX0_changePocket : ByteArray := prog_2_method_6_code
def yX0_changePocket : MethodName := ⟨RX0, "changePocket", "(I)I"⟩
abbrev cX0_takeWeights : ByteArray := prog_2_method_7_code
def yX0_takeWeights : MethodName := ⟨RX0, "takeWeights", "(LBagBottom$Row;)I"⟩
abbrev cX0_gives : ByteArray := prog_2_method_8_code
def yX0_gives : MethodName := ⟨RX0, "gives", "(IIII)I"⟩
abbrev cX0_usedOf : ByteArray := prog_2_method_9_code
def yX0_usedOf : MethodName := ⟨RX0, "usedOf", "(I)I"⟩
abbrev cX0_time : ByteArray := prog_2_method_10_code
def yX0_time : MethodName := ⟨RX0, "time", "(II)I"⟩
abbrev cX0_bestWay : ByteArray := prog_2_method_11_code
def yX0_bestWay : MethodName := ⟨RX0, "bestWay", "(I)I"⟩
abbrev cX0_take : ByteArray := prog_2_method_12_code
def yX0_take : MethodName := ⟨RX0, "take", "(II)I"⟩
abbrev cX0_learnSinks : ByteArray := prog_2_method_13_code
def yX0_learnSinks : MethodName := ⟨RX0, "learnSinks", "()V"⟩
abbrev cX0_shake : ByteArray := prog_2_method_14_code
def yX0_shake : MethodName := ⟨RX0, "shake", "(LBagBottom$Row;I)Z"⟩
abbrev cX0_walk : ByteArray := prog_2_method_15_code
def yX0_walk : MethodName := ⟨RX0, "walk", "(I)V"⟩
abbrev cX0_draw : ByteArray := prog_2_method_16_code
def yX0_draw : MethodName := ⟨RX0, "draw", "()I"⟩
abbrev cX0_goByDraws : ByteArray := prog_2_method_17_code
def yX0_goByDraws : MethodName := ⟨RX0, "goByDraws", "()V"⟩
abbrev cX0_copy : ByteArray := prog_2_method_18_code
def yX0_copy : MethodName := ⟨RX0, "copy", "(LBagBottom$Bag;)V"⟩
def RX1 : String := "BagBottom$Row"
def TX1 : u_T := fun k => match k with
  | 0 => ("BagBottom$Row", "numbers", "[I", true)
  | _ => ("BagBottom$Row", "length", "I", false)
def tyX1 : Nat → FieldType := fun k => match k with
  | 0 => .array .int
  | _ => .int
theorem nmX1 : ∀ a, a < 2 → ∀ b, b < 2 → a ≠ b → (TX1 a).2.1 ≠ (TX1 b).2.1 := by decide +kernel
theorem tyX1_ok : ∀ k, k < 2 → parseFieldDescriptor (TX1 k).2.2.1 = some (tyX1 k) := by decide +kernel
abbrev cX1_init : ByteArray := prog_3_method_1_code
def yX1_init : MethodName := ⟨RX1, "<init>", "(I)V"⟩
abbrev cX1_has : ByteArray := prog_3_method_2_code
def yX1_has : MethodName := ⟨RX1, "has", "(I)Z"⟩
abbrev cX1_hasRun : ByteArray := prog_3_method_3_code
def yX1_hasRun : MethodName := ⟨RX1, "hasRun", "(II)Z"⟩
abbrev cX1_placeOf : ByteArray := prog_3_method_4_code
def yX1_placeOf : MethodName := ⟨RX1, "placeOf", "(I)I"⟩
abbrev cX1_add : ByteArray := prog_3_method_5_code
def yX1_add : MethodName := ⟨RX1, "add", "(I)V"⟩
abbrev cX1_addOnTop : ByteArray := prog_3_method_6_code
def yX1_addOnTop : MethodName := ⟨RX1, "addOnTop", "(I)V"⟩
abbrev cX1_removeAt : ByteArray := prog_3_method_7_code
def yX1_removeAt : MethodName := ⟨RX1, "removeAt", "(I)V"⟩
abbrev cX1_exchange : ByteArray := prog_3_method_8_code
def yX1_exchange : MethodName := ⟨RX1, "exchange", "(II)V"⟩
abbrev cX1_turnOverFrom : ByteArray := prog_3_method_9_code
def yX1_turnOverFrom : MethodName := ⟨RX1, "turnOverFrom", "(I)V"⟩
abbrev cX1_goToNext : ByteArray := prog_3_method_10_code
def yX1_goToNext : MethodName := ⟨RX1, "goToNext", "()Z"⟩
abbrev cX1_alikeWith : ByteArray := prog_3_method_11_code
def yX1_alikeWith : MethodName := ⟨RX1, "alikeWith", "(LBagBottom$Row;)I"⟩
abbrev cX1_copy : ByteArray := prog_3_method_12_code
def yX1_copy : MethodName := ⟨RX1, "copy", "(LBagBottom$Row;)V"⟩
def RX2 : String := "BagBottom$Sheet"
def TX2 : u_T := fun k => match k with
  | 0 => ("BagBottom$Sheet", "bits", "I", false)
  | _ => ("BagBottom$Sheet", "row", "LBagBottom$Row;", true)
def tyX2 : Nat → FieldType := fun k => match k with
  | 0 => .int
  | _ => .object "BagBottom$Row"
theorem nmX2 : ∀ a, a < 2 → ∀ b, b < 2 → a ≠ b → (TX2 a).2.1 ≠ (TX2 b).2.1 := by decide +kernel
theorem tyX2_ok : ∀ k, k < 2 → parseFieldDescriptor (TX2 k).2.2.1 = some (tyX2 k) := by decide +kernel
abbrev cX2_init : ByteArray := prog_4_method_1_code
def yX2_init : MethodName := ⟨RX2, "<init>", "()V"⟩
abbrev cX2_isMissing : ByteArray := prog_4_method_2_code
def yX2_isMissing : MethodName := ⟨RX2, "isMissing", "()Z"⟩
abbrev cX2_begin : ByteArray := prog_4_method_3_code
def yX2_begin : MethodName := ⟨RX2, "begin", "(II)V"⟩
abbrev cX2_write : ByteArray := prog_4_method_4_code
def yX2_write : MethodName := ⟨RX2, "write", "(II)V"⟩
def RX3 : String := "BagBottom$Text"
def TX3 : u_T := fun k => match k with
  | 0 => ("BagBottom$Text", "codes", "LBagBottom$Row;", true)
  | 1 => ("BagBottom$Text", "written", "LBagBottom$Row;", true)
  | 2 => ("BagBottom$Text", "stack", "[I", true)
  | 3 => ("BagBottom$Text", "bytes", "LBagBottom$Row;", false)
  | 4 => ("BagBottom$Text", "names", "Ljava/lang/String;", false)
  | _ => ("BagBottom$Text", "next", "I", false)
def tyX3 : Nat → FieldType := fun k => match k with
  | 0 => .object "BagBottom$Row"
  | 1 => .object "BagBottom$Row"
  | 2 => .array .int
  | 3 => .object "BagBottom$Row"
  | 4 => .object "java/lang/String"
  | _ => .int
theorem nmX3 : ∀ a, a < 6 → ∀ b, b < 6 → a ≠ b → (TX3 a).2.1 ≠ (TX3 b).2.1 := by decide +kernel
theorem tyX3_ok : ∀ k, k < 6 → parseFieldDescriptor (TX3 k).2.2.1 = some (tyX3 k) := by decide +kernel
abbrev cX3_init : ByteArray := prog_5_method_1_code
def yX3_init : MethodName := ⟨RX3, "<init>", "()V"⟩
abbrev cX3_isThere : ByteArray := prog_5_method_2_code
def yX3_isThere : MethodName := ⟨RX3, "isThere", "()Z"⟩
abbrev cX3_read : ByteArray := prog_5_method_3_code
def yX3_read : MethodName := ⟨RX3, "read", "(LBagBottom$Row;Ljava/lang/String;)I"⟩
abbrev cX3_reads : ByteArray := prog_5_method_4_code
def yX3_reads : MethodName := ⟨RX3, "reads", "(II)Z"⟩
abbrev cX3_readsSingle : ByteArray := prog_5_method_5_code
def yX3_readsSingle : MethodName := ⟨RX3, "readsSingle", "(I)Z"⟩
abbrev cX3_readNumber : ByteArray := prog_5_method_6_code
def yX3_readNumber : MethodName := ⟨RX3, "readNumber", "()V"⟩
abbrev cX3_signsOf : ByteArray := prog_5_method_7_code
def yX3_signsOf : MethodName := ⟨RX3, "signsOf", "(I)Ljava/lang/String;"⟩
abbrev cX3_here : ByteArray := prog_5_method_8_code
def yX3_here : MethodName := ⟨RX3, "here", "()I"⟩
abbrev cX3_standsIn : ByteArray := prog_5_method_9_code
def yX3_standsIn : MethodName := ⟨RX3, "standsIn", "(Ljava/lang/String;)Z"⟩
abbrev cX3_value : ByteArray := prog_5_method_10_code
def yX3_value : MethodName := ⟨RX3, "value", "(III)I"⟩
abbrev cX3_joined : ByteArray := prog_5_method_11_code
def yX3_joined : MethodName := ⟨RX3, "joined", "(III)I"⟩
abbrev cX3_copy : ByteArray := prog_5_method_12_code
def yX3_copy : MethodName := ⟨RX3, "copy", "(LBagBottom$Text;)V"⟩
def RX4 : String := "BagBottom$Thing"
def TX4 : u_T := fun k => match k with
  | 0 => ("BagBottom$Thing", "kind", "I", false)
  | 1 => ("BagBottom$Thing", "m", "I", false)
  | 2 => ("BagBottom$Thing", "weight", "I", false)
  | _ => ("BagBottom$Thing", "size", "I", false)
def tyX4 : Nat → FieldType := fun k => match k with
  | 0 => .int
  | 1 => .int
  | 2 => .int
  | _ => .int
theorem nmX4 : ∀ a, a < 4 → ∀ b, b < 4 → a ≠ b → (TX4 a).2.1 ≠ (TX4 b).2.1 := by decide +kernel
theorem tyX4_ok : ∀ k, k < 4 → parseFieldDescriptor (TX4 k).2.2.1 = some (tyX4 k) := by decide +kernel
abbrev cX4_init : ByteArray := prog_6_method_1_code
def yX4_init : MethodName := ⟨RX4, "<init>", "()V"⟩
abbrev cX4_sinks : ByteArray := prog_6_method_2_code
def yX4_sinks : MethodName := ⟨RX4, "sinks", "(I)I"⟩
abbrev cX4_feels : ByteArray := prog_6_method_3_code
def yX4_feels : MethodName := ⟨RX4, "feels", "()I"⟩
abbrev cX4_isOf : ByteArray := prog_6_method_4_code
def yX4_isOf : MethodName := ⟨RX4, "isOf", "(I)Z"⟩
abbrev cX4_copy : ByteArray := prog_6_method_5_code
def yX4_copy : MethodName := ⟨RX4, "copy", "(LBagBottom$Thing;)V"⟩
def RX5 : String := "BagBottom$Thought"
def TX5 : u_T := fun k => match k with
  | 0 => ("BagBottom$Thought", "packed", "LBagBottom$Row;", true)
  | 1 => ("BagBottom$Thought", "start", "LBagBottom$Row;", true)
  | 2 => ("BagBottom$Thought", "row", "LBagBottom$Row;", true)
  | 3 => ("BagBottom$Thought", "felt", "[I", true)
  | _ => ("BagBottom$Thought", "used", "[I", true)
def tyX5 : Nat → FieldType := fun k => match k with
  | 0 => .object "BagBottom$Row"
  | 1 => .object "BagBottom$Row"
  | 2 => .object "BagBottom$Row"
  | 3 => .array .int
  | _ => .array .int
theorem nmX5 : ∀ a, a < 5 → ∀ b, b < 5 → a ≠ b → (TX5 a).2.1 ≠ (TX5 b).2.1 := by decide +kernel
theorem tyX5_ok : ∀ k, k < 5 → parseFieldDescriptor (TX5 k).2.2.1 = some (tyX5 k) := by decide +kernel
abbrev cX5_init : ByteArray := prog_7_method_1_code
def yX5_init : MethodName := ⟨RX5, "<init>", "()V"⟩
abbrev cX5_whereThen : ByteArray := prog_7_method_2_code
def yX5_whereThen : MethodName := ⟨RX5, "whereThen", "(LBagBottom$Bag;II)I"⟩
abbrev cX5_stepsToSettle : ByteArray := prog_7_method_3_code
def yX5_stepsToSettle : MethodName := ⟨RX5, "stepsToSettle", "(LBagBottom$Bag;)I"⟩
abbrev cX5_stepsToBe : ByteArray := prog_7_method_4_code
def yX5_stepsToBe : MethodName := ⟨RX5, "stepsToBe", "(LBagBottom$Bag;LBagBottom$Row;)I"⟩
abbrev cX5_packFor : ByteArray := prog_7_method_5_code
def yX5_packFor : MethodName := ⟨RX5, "packFor", "(LBagBottom$Bag;I)I"⟩
abbrev cX5_costOfStart : ByteArray := prog_7_method_6_code
def yX5_costOfStart : MethodName := ⟨RX5, "costOfStart", "(LBagBottom$Bag;I)I"⟩
abbrev cX5_learnUses : ByteArray := prog_7_method_7_code
def yX5_learnUses : MethodName := ⟨RX5, "learnUses", "(LBagBottom$Bag;)V"⟩
abbrev cX5_setLeftOut : ByteArray := prog_7_method_8_code
def yX5_setLeftOut : MethodName := ⟨RX5, "setLeftOut", "(LBagBottom$Bag;II)I"⟩
abbrev cX5_timeWithout : ByteArray := prog_7_method_9_code
def yX5_timeWithout : MethodName := ⟨RX5, "timeWithout", "(LBagBottom$Row;II)I"⟩
abbrev cX5_usedWithin : ByteArray := prog_7_method_10_code
def yX5_usedWithin : MethodName := ⟨RX5, "usedWithin", "(LBagBottom$Bag;I)I"⟩
def RX6 : String := "BagBottom$Voices"
def TX6 : u_T := fun k => match k with
  | 0 => ("BagBottom$Voices", "trace", "LBagBottom$Row;", true)
  | 1 => ("BagBottom$Voices", "parted", "Z", false)
  | 2 => ("BagBottom$Voices", "number", "I", false)
  | 3 => ("BagBottom$Voices", "kind", "I", false)
  | _ => ("BagBottom$Voices", "m", "I", false)
def tyX6 : Nat → FieldType := fun k => match k with
  | 0 => .object "BagBottom$Row"
  | 1 => .boolean
  | 2 => .int
  | 3 => .int
  | _ => .int
theorem nmX6 : ∀ a, a < 5 → ∀ b, b < 5 → a ≠ b → (TX6 a).2.1 ≠ (TX6 b).2.1 := by decide +kernel
theorem tyX6_ok : ∀ k, k < 5 → parseFieldDescriptor (TX6 k).2.2.1 = some (tyX6 k) := by decide +kernel
abbrev cX6_init : ByteArray := prog_8_method_1_code
def yX6_init : MethodName := ⟨RX6, "<init>", "()V"⟩
abbrev cX6_answer : ByteArray := prog_8_method_2_code
def yX6_answer : MethodName := ⟨RX6, "answer", "(ILBagBottom$Thing;II)I"⟩
abbrev cX6_bodyFrom : ByteArray := prog_8_method_3_code
def yX6_bodyFrom : MethodName := ⟨RX6, "bodyFrom", "(II)I"⟩
abbrev cX6_speak : ByteArray := prog_8_method_4_code
def yX6_speak : MethodName := ⟨RX6, "speak", "(IIII)I"⟩
abbrev cX6_partedBy : ByteArray := prog_8_method_5_code
def yX6_partedBy : MethodName := ⟨RX6, "partedBy", "(II)I"⟩
def RX7 : String := "BagBottom"
def TX7 : u_T := fun k => match k with
  | 0 => ("BagBottom", "bag", "LBagBottom$Bag;", true)
  | 1 => ("BagBottom", "kept", "LBagBottom$Bag;", true)
  | 2 => ("BagBottom", "images", "I", false)
  | 3 => ("BagBottom", "sheets", "[LBagBottom$Sheet;", true)
  | 4 => ("BagBottom", "voices", "LBagBottom$Voices;", true)
  | 5 => ("BagBottom", "thought", "LBagBottom$Thought;", true)
  | _ => ("BagBottom", "errors", "[I", true)
def tyX7 : Nat → FieldType := fun k => match k with
  | 0 => .object "BagBottom$Bag"
  | 1 => .object "BagBottom$Bag"
  | 2 => .int
  | 3 => .array (.object "BagBottom$Sheet")
  | 4 => .object "BagBottom$Voices"
  | 5 => .object "BagBottom$Thought"
  | _ => .array .int
theorem nmX7 : ∀ a, a < 7 → ∀ b, b < 7 → a ≠ b → (TX7 a).2.1 ≠ (TX7 b).2.1 := by decide +kernel
theorem tyX7_ok : ∀ k, k < 7 → parseFieldDescriptor (TX7 k).2.2.1 = some (tyX7 k) := by decide +kernel
abbrev cX7_init : ByteArray := prog_1_method_1_code
def yX7_init : MethodName := ⟨RX7, "<init>", "()V"⟩
abbrev cX7_thing : ByteArray := prog_1_method_2_code
def yX7_thing : MethodName := ⟨RX7, "thing", "(III)I"⟩
abbrev cX7_thingIs : ByteArray := prog_1_method_3_code
def yX7_thingIs : MethodName := ⟨RX7, "thingIs", "(II)I"⟩
abbrev cX7_become : ByteArray := prog_1_method_4_code
def yX7_become : MethodName := ⟨RX7, "become", "(II)I"⟩
abbrev cX7_as : ByteArray := prog_1_method_5_code
def yX7_as : MethodName := ⟨RX7, "as", "(II)I"⟩
abbrev cX7_weigh : ByteArray := prog_1_method_6_code
def yX7_weigh : MethodName := ⟨RX7, "weigh", "(II)I"⟩
abbrev cX7_at : ByteArray := prog_1_method_7_code
def yX7_at : MethodName := ⟨RX7, "at", "(I)I"⟩
abbrev cX7_leave : ByteArray := prog_1_method_8_code
def yX7_leave : MethodName := ⟨RX7, "leave", "(I)I"⟩
abbrev cX7_stow : ByteArray := prog_1_method_9_code
def yX7_stow : MethodName := ⟨RX7, "stow", "(I)I"⟩
abbrev cX7_zip : ByteArray := prog_1_method_10_code
def yX7_zip : MethodName := ⟨RX7, "zip", "(I)I"⟩
abbrev cX7_feed : ByteArray := prog_1_method_11_code
def yX7_feed : MethodName := ⟨RX7, "feed", "(JI)I"⟩
abbrev cX7_text : ByteArray := prog_1_method_12_code
def yX7_text : MethodName := ⟨RX7, "text", "(I)I"⟩
abbrev cX7_untell : ByteArray := prog_1_method_13_code
def yX7_untell : MethodName := ⟨RX7, "untell", "(I)I"⟩
abbrev cX7_law : ByteArray := prog_1_method_14_code
def yX7_law : MethodName := ⟨RX7, "law", "(IIII)I"⟩
abbrev cX7_seconds : ByteArray := prog_1_method_15_code
def yX7_seconds : MethodName := ⟨RX7, "seconds", "(II)I"⟩
abbrev cX7_best : ByteArray := prog_1_method_16_code
def yX7_best : MethodName := ⟨RX7, "best", "(II)I"⟩
abbrev cX7_takes : ByteArray := prog_1_method_17_code
def yX7_takes : MethodName := ⟨RX7, "takes", "(II)I"⟩
abbrev cX7_walks : ByteArray := prog_1_method_18_code
def yX7_walks : MethodName := ⟨RX7, "walks", "(I)I"⟩
abbrev cX7_loose : ByteArray := prog_1_method_19_code
def yX7_loose : MethodName := ⟨RX7, "loose", "(I)I"⟩
abbrev cX7_seed : ByteArray := prog_1_method_20_code
def yX7_seed : MethodName := ⟨RX7, "seed", "(I)I"⟩
abbrev cX7_then : ByteArray := prog_1_method_21_code
def yX7_then : MethodName := ⟨RX7, "then", "(II)I"⟩
abbrev cX7_settles : ByteArray := prog_1_method_22_code
def yX7_settles : MethodName := ⟨RX7, "settles", "()I"⟩
abbrev cX7_pack : ByteArray := prog_1_method_23_code
def yX7_pack : MethodName := ⟨RX7, "pack", "(II)I"⟩
abbrev cX7_out : ByteArray := prog_1_method_24_code
def yX7_out : MethodName := ⟨RX7, "out", "(III)I"⟩
abbrev cX7_odds : ByteArray := prog_1_method_25_code
def yX7_odds : MethodName := ⟨RX7, "odds", "(II)I"⟩
abbrev cX7_fits : ByteArray := prog_1_method_26_code
def yX7_fits : MethodName := ⟨RX7, "fits", "(I)I"⟩
abbrev cX7_voice : ByteArray := prog_1_method_27_code
def yX7_voice : MethodName := ⟨RX7, "voice", "(III)I"⟩
abbrev cX7_body : ByteArray := prog_1_method_28_code
def yX7_body : MethodName := ⟨RX7, "body", "(I)I"⟩
abbrev cX7_sheet : ByteArray := prog_1_method_29_code
def yX7_sheet : MethodName := ⟨RX7, "sheet", "(III)I"⟩
abbrev cX7_put : ByteArray := prog_1_method_30_code
def yX7_put : MethodName := ⟨RX7, "put", "(III)I"⟩
abbrev cX7_move : ByteArray := prog_1_method_31_code
def yX7_move : MethodName := ⟨RX7, "move", "(IIIII)I"⟩
abbrev cX7_weights : ByteArray := prog_1_method_32_code
def yX7_weights : MethodName := ⟨RX7, "weights", "(I)I"⟩
abbrev cX7_judge : ByteArray := prog_1_method_33_code
def yX7_judge : MethodName := ⟨RX7, "judge", "(I)I"⟩
abbrev cX7_image : ByteArray := prog_1_method_34_code
def yX7_image : MethodName := ⟨RX7, "image", "()I"⟩
abbrev cX7_restore : ByteArray := prog_1_method_35_code
def yX7_restore : MethodName := ⟨RX7, "restore", "()I"⟩
abbrev cX7_tell : ByteArray := prog_1_method_36_code
def yX7_tell : MethodName := ⟨RX7, "tell", "(I)I"⟩
abbrev cX7_check : ByteArray := prog_1_method_37_code
def yX7_check : MethodName := ⟨RX7, "check", "()I"⟩
abbrev cX7_count : ByteArray := prog_1_method_38_code
def yX7_count : MethodName := ⟨RX7, "count", "(I)I"⟩
abbrev cX7_told : ByteArray := prog_1_method_39_code
def yX7_told : MethodName := ⟨RX7, "told", "(I)I"⟩
abbrev cX7_failed : ByteArray := prog_1_method_40_code
def yX7_failed : MethodName := ⟨RX7, "failed", "(I)I"⟩
abbrev cX7_isKindAndM : ByteArray := prog_1_method_41_code
def yX7_isKindAndM : MethodName := ⟨RX7, "isKindAndM", "(I)Z"⟩
abbrev cX7_isWeight : ByteArray := prog_1_method_42_code
def yX7_isWeight : MethodName := ⟨RX7, "isWeight", "(I)Z"⟩
abbrev cX7_isUse : ByteArray := prog_1_method_43_code
def yX7_isUse : MethodName := ⟨RX7, "isUse", "(I)Z"⟩
abbrev cX7_isWay : ByteArray := prog_1_method_44_code
def yX7_isWay : MethodName := ⟨RX7, "isWay", "(I)Z"⟩
abbrev cX7_isTimeAsked : ByteArray := prog_1_method_45_code
def yX7_isTimeAsked : MethodName := ⟨RX7, "isTimeAsked", "(I)Z"⟩
abbrev cX7_isSheet : ByteArray := prog_1_method_46_code
def yX7_isSheet : MethodName := ⟨RX7, "isSheet", "(I)Z"⟩
abbrev cX7_commonDivisor : ByteArray := prog_1_method_47_code
def yX7_commonDivisor : MethodName := ⟨RX7, "commonDivisor", "(II)I"⟩
def RX8 : String := "BagBottomModel"
def TX8 : u_T := fun k => match k with
  | 0 => ("BagBottomModel", "row", "[I", true)
  | 1 => ("BagBottomModel", "kept", "[I", true)
  | 2 => ("BagBottomModel", "before", "[I", true)
  | 3 => ("BagBottomModel", "images", "I", false)
  | 4 => ("BagBottomModel", "errors", "[I", true)
  | 5 => ("BagBottomModel", "bitsOf", "[I", true)
  | 6 => ("BagBottomModel", "sizeOf", "[I", true)
  | 7 => ("BagBottomModel", "cells", "[I", true)
  | 8 => ("BagBottomModel", "act", "[I", true)
  | 9 => ("BagBottomModel", "with", "[I", true)
  | 10 => ("BagBottomModel", "facts", "[I", true)
  | 11 => ("BagBottomModel", "pile", "[I", true)
  | 12 => ("BagBottomModel", "laid", "I", false)
  | 13 => ("BagBottomModel", "here", "I", false)
  | 14 => ("BagBottomModel", "opened", "I", false)
  | 15 => ("BagBottomModel", "bad", "Z", false)
  | 16 => ("BagBottomModel", "using", "I", false)
  | 17 => ("BagBottomModel", "packed", "[I", true)
  | 18 => ("BagBottomModel", "leastPacked", "I", false)
  | 19 => ("BagBottomModel", "taking", "[I", true)
  | 20 => ("BagBottomModel", "trace", "[I", true)
  | 21 => ("BagBottomModel", "traced", "I", false)
  | _ => ("BagBottomModel", "isParted", "Z", false)
def tyX8 : Nat → FieldType := fun k => match k with
  | 0 => .array .int
  | 1 => .array .int
  | 2 => .array .int
  | 3 => .int
  | 4 => .array .int
  | 5 => .array .int
  | 6 => .array .int
  | 7 => .array .int
  | 8 => .array .int
  | 9 => .array .int
  | 10 => .array .int
  | 11 => .array .int
  | 12 => .int
  | 13 => .int
  | 14 => .int
  | 15 => .boolean
  | 16 => .int
  | 17 => .array .int
  | 18 => .int
  | 19 => .array .int
  | 20 => .array .int
  | 21 => .int
  | _ => .boolean
theorem nmX8 : ∀ a, a < 23 → ∀ b, b < 23 → a ≠ b → (TX8 a).2.1 ≠ (TX8 b).2.1 := by decide +kernel
theorem tyX8_ok : ∀ k, k < 23 → parseFieldDescriptor (TX8 k).2.2.1 = some (tyX8 k) := by decide +kernel
abbrev cX8_init : ByteArray := prog_10_method_1_code
def yX8_init : MethodName := ⟨RX8, "<init>", "()V"⟩
abbrev cX8_error : ByteArray := prog_10_method_2_code
def yX8_error : MethodName := ⟨RX8, "error", "(I)I"⟩
abbrev cX8_in : ByteArray := prog_10_method_3_code
def yX8_in : MethodName := ⟨RX8, "in", "(III)Z"⟩
abbrev cX8_held : ByteArray := prog_10_method_4_code
def yX8_held : MethodName := ⟨RX8, "held", "(III)I"⟩
abbrev cX8_copyAll : ByteArray := prog_10_method_5_code
def yX8_copyAll : MethodName := ⟨RX8, "copyAll", "([I[I)V"⟩
abbrev cX8_thinks : ByteArray := prog_10_method_6_code
def yX8_thinks : MethodName := ⟨RX8, "thinks", "()V"⟩
abbrev cX8_putsBack : ByteArray := prog_10_method_7_code
def yX8_putsBack : MethodName := ⟨RX8, "putsBack", "()V"⟩
abbrev cX8_bits : ByteArray := prog_10_method_8_code
def yX8_bits : MethodName := ⟨RX8, "bits", "(I)I"⟩
abbrev cX8_isThing : ByteArray := prog_10_method_9_code
def yX8_isThing : MethodName := ⟨RX8, "isThing", "(I)Z"⟩
abbrev cX8_becomes : ByteArray := prog_10_method_10_code
def yX8_becomes : MethodName := ⟨RX8, "becomes", "(II)I"⟩
abbrev cX8_of : ByteArray := prog_10_method_11_code
def yX8_of : MethodName := ⟨RX8, "of", "(II)I"⟩
abbrev cX8_sinksOf : ByteArray := prog_10_method_12_code
def yX8_sinksOf : MethodName := ⟨RX8, "sinksOf", "(I)I"⟩
abbrev cX8_feelsOf : ByteArray := prog_10_method_13_code
def yX8_feelsOf : MethodName := ⟨RX8, "feelsOf", "(I)I"⟩
abbrev cX8_whereIs : ByteArray := prog_10_method_14_code
def yX8_whereIs : MethodName := ⟨RX8, "whereIs", "(I)I"⟩
abbrev cX8_goesFrom : ByteArray := prog_10_method_15_code
def yX8_goesFrom : MethodName := ⟨RX8, "goesFrom", "(I)V"⟩
abbrev cX8_goesOnTop : ByteArray := prog_10_method_16_code
def yX8_goesOnTop : MethodName := ⟨RX8, "goesOnTop", "(I)V"⟩
abbrev cX8_aStep : ByteArray := prog_10_method_17_code
def yX8_aStep : MethodName := ⟨RX8, "aStep", "()Z"⟩
abbrev cX8_steps : ByteArray := prog_10_method_18_code
def yX8_steps : MethodName := ⟨RX8, "steps", "(I)V"⟩
abbrev cX8_isKm : ByteArray := prog_10_method_19_code
def yX8_isKm : MethodName := ⟨RX8, "isKm", "(I)Z"⟩
abbrev cX8_thing : ByteArray := prog_10_method_20_code
def yX8_thing : MethodName := ⟨RX8, "thing", "(III)I"⟩
abbrev cX8_thingIs : ByteArray := prog_10_method_21_code
def yX8_thingIs : MethodName := ⟨RX8, "thingIs", "(II)I"⟩
abbrev cX8_become : ByteArray := prog_10_method_22_code
def yX8_become : MethodName := ⟨RX8, "become", "(II)I"⟩
abbrev cX8_as : ByteArray := prog_10_method_23_code
def yX8_as : MethodName := ⟨RX8, "as", "(II)I"⟩
abbrev cX8_weigh : ByteArray := prog_10_method_24_code
def yX8_weigh : MethodName := ⟨RX8, "weigh", "(II)I"⟩
abbrev cX8_at : ByteArray := prog_10_method_25_code
def yX8_at : MethodName := ⟨RX8, "at", "(I)I"⟩
abbrev cX8_leave : ByteArray := prog_10_method_26_code
def yX8_leave : MethodName := ⟨RX8, "leave", "(I)I"⟩
abbrev cX8_stow : ByteArray := prog_10_method_27_code
def yX8_stow : MethodName := ⟨RX8, "stow", "(I)I"⟩
abbrev cX8_zip : ByteArray := prog_10_method_28_code
def yX8_zip : MethodName := ⟨RX8, "zip", "(I)I"⟩
abbrev cX8_feed : ByteArray := prog_10_method_29_code
def yX8_feed : MethodName := ⟨RX8, "feed", "(JI)I"⟩
abbrev cX8_look : ByteArray := prog_10_method_30_code
def yX8_look : MethodName := ⟨RX8, "look", "()I"⟩
abbrev cX8_step : ByteArray := prog_10_method_31_code
def yX8_step : MethodName := ⟨RX8, "step", "(II)V"⟩
abbrev cX8_nameOf : ByteArray := prog_10_method_32_code
def yX8_nameOf : MethodName := ⟨RX8, "nameOf", "(I)I"⟩
abbrev cX8_number : ByteArray := prog_10_method_33_code
def yX8_number : MethodName := ⟨RX8, "number", "()V"⟩
abbrev cX8_opens : ByteArray := prog_10_method_34_code
def yX8_opens : MethodName := ⟨RX8, "opens", "(I)V"⟩
abbrev cX8_one : ByteArray := prog_10_method_35_code
def yX8_one : MethodName := ⟨RX8, "one", "()V"⟩
abbrev cX8_times : ByteArray := prog_10_method_36_code
def yX8_times : MethodName := ⟨RX8, "times", "()V"⟩
abbrev cX8_sum : ByteArray := prog_10_method_37_code
def yX8_sum : MethodName := ⟨RX8, "sum", "()V"⟩
abbrev cX8_compares : ByteArray := prog_10_method_38_code
def yX8_compares : MethodName := ⟨RX8, "compares", "()V"⟩
abbrev cX8_all : ByteArray := prog_10_method_39_code
def yX8_all : MethodName := ⟨RX8, "all", "()V"⟩
abbrev cX8_any : ByteArray := prog_10_method_40_code
def yX8_any : MethodName := ⟨RX8, "any", "()V"⟩
abbrev cX8_text : ByteArray := prog_10_method_41_code
def yX8_text : MethodName := ⟨RX8, "text", "(I)I"⟩
abbrev cX8_untell : ByteArray := prog_10_method_42_code
def yX8_untell : MethodName := ⟨RX8, "untell", "(I)I"⟩
abbrev cX8_twoOf : ByteArray := prog_10_method_43_code
def yX8_twoOf : MethodName := ⟨RX8, "twoOf", "(III)I"⟩
abbrev cX8_works : ByteArray := prog_10_method_44_code
def yX8_works : MethodName := ⟨RX8, "works", "(I)I"⟩
abbrev cX8_gives : ByteArray := prog_10_method_45_code
def yX8_gives : MethodName := ⟨RX8, "gives", "(IIII)I"⟩
abbrev cX8_law : ByteArray := prog_10_method_46_code
def yX8_law : MethodName := ⟨RX8, "law", "(IIII)I"⟩
abbrev cX8_usedOf : ByteArray := prog_10_method_47_code
def yX8_usedOf : MethodName := ⟨RX8, "usedOf", "(I)I"⟩
abbrev cX8_feelingTo : ByteArray := prog_10_method_48_code
def yX8_feelingTo : MethodName := ⟨RX8, "feelingTo", "(I)I"⟩
abbrev cX8_timeOf : ByteArray := prog_10_method_49_code
def yX8_timeOf : MethodName := ⟨RX8, "timeOf", "(II)I"⟩
abbrev cX8_bestWay : ByteArray := prog_10_method_50_code
def yX8_bestWay : MethodName := ⟨RX8, "bestWay", "(I)I"⟩
abbrev cX8_seconds : ByteArray := prog_10_method_51_code
def yX8_seconds : MethodName := ⟨RX8, "seconds", "(II)I"⟩
abbrev cX8_best : ByteArray := prog_10_method_52_code
def yX8_best : MethodName := ⟨RX8, "best", "(II)I"⟩
abbrev cX8_turnsOver : ByteArray := prog_10_method_53_code
def yX8_turnsOver : MethodName := ⟨RX8, "turnsOver", "()V"⟩
abbrev cX8_taken : ByteArray := prog_10_method_54_code
def yX8_taken : MethodName := ⟨RX8, "taken", "(II)I"⟩
abbrev cX8_takes : ByteArray := prog_10_method_55_code
def yX8_takes : MethodName := ⟨RX8, "takes", "(II)I"⟩
abbrev cX8_walks : ByteArray := prog_10_method_56_code
def yX8_walks : MethodName := ⟨RX8, "walks", "(I)I"⟩
abbrev cX8_draw : ByteArray := prog_10_method_57_code
def yX8_draw : MethodName := ⟨RX8, "draw", "()I"⟩
abbrev cX8_drawn : ByteArray := prog_10_method_58_code
def yX8_drawn : MethodName := ⟨RX8, "drawn", "()V"⟩
abbrev cX8_loose : ByteArray := prog_10_method_59_code
def yX8_loose : MethodName := ⟨RX8, "loose", "(I)I"⟩
abbrev cX8_seed : ByteArray := prog_10_method_60_code
def yX8_seed : MethodName := ⟨RX8, "seed", "(I)I"⟩
abbrev cX8_then : ByteArray := prog_10_method_61_code
def yX8_then : MethodName := ⟨RX8, "then", "(II)I"⟩
abbrev cX8_settles : ByteArray := prog_10_method_62_code
def yX8_settles : MethodName := ⟨RX8, "settles", "()I"⟩
abbrev cX8_packing : ByteArray := prog_10_method_63_code
def yX8_packing : MethodName := ⟨RX8, "packing", "(I)I"⟩
abbrev cX8_packs : ByteArray := prog_10_method_64_code
def yX8_packs : MethodName := ⟨RX8, "packs", "(III)V"⟩
abbrev cX8_inside : ByteArray := prog_10_method_65_code
def yX8_inside : MethodName := ⟨RX8, "inside", "()I"⟩
abbrev cX8_pack : ByteArray := prog_10_method_66_code
def yX8_pack : MethodName := ⟨RX8, "pack", "(II)I"⟩
abbrev cX8_out : ByteArray := prog_10_method_67_code
def yX8_out : MethodName := ⟨RX8, "out", "(III)I"⟩
abbrev cX8_odds : ByteArray := prog_10_method_68_code
def yX8_odds : MethodName := ⟨RX8, "odds", "(II)I"⟩
abbrev cX8_rightOf : ByteArray := prog_10_method_69_code
def yX8_rightOf : MethodName := ⟨RX8, "rightOf", "(I)I"⟩
abbrev cX8_fits : ByteArray := prog_10_method_70_code
def yX8_fits : MethodName := ⟨RX8, "fits", "(I)I"⟩
abbrev cX8_begins : ByteArray := prog_10_method_71_code
def yX8_begins : MethodName := ⟨RX8, "begins", "(I)V"⟩
abbrev cX8_plainRattles : ByteArray := prog_10_method_72_code
def yX8_plainRattles : MethodName := ⟨RX8, "plainRattles", "(II)I"⟩
abbrev cX8_keysRattles : ByteArray := prog_10_method_73_code
def yX8_keysRattles : MethodName := ⟨RX8, "keysRattles", "(II)I"⟩
abbrev cX8_rattles : ByteArray := prog_10_method_74_code
def yX8_rattles : MethodName := ⟨RX8, "rattles", "(II)I"⟩
abbrev cX8_plainRustles : ByteArray := prog_10_method_75_code
def yX8_plainRustles : MethodName := ⟨RX8, "plainRustles", "(II)I"⟩
abbrev cX8_paperRustles : ByteArray := prog_10_method_76_code
def yX8_paperRustles : MethodName := ⟨RX8, "paperRustles", "(II)I"⟩
abbrev cX8_rustles : ByteArray := prog_10_method_77_code
def yX8_rustles : MethodName := ⟨RX8, "rustles", "(II)I"⟩
abbrev cX8_plainRings : ByteArray := prog_10_method_78_code
def yX8_plainRings : MethodName := ⟨RX8, "plainRings", "(II)I"⟩
abbrev cX8_rings : ByteArray := prog_10_method_79_code
def yX8_rings : MethodName := ⟨RX8, "rings", "(II)I"⟩
abbrev cX8_plainParts : ByteArray := prog_10_method_80_code
def yX8_plainParts : MethodName := ⟨RX8, "plainParts", "(II)I"⟩
abbrev cX8_parts : ByteArray := prog_10_method_81_code
def yX8_parts : MethodName := ⟨RX8, "parts", "(II)I"⟩
abbrev cX8_voice : ByteArray := prog_10_method_82_code
def yX8_voice : MethodName := ⟨RX8, "voice", "(III)I"⟩
abbrev cX8_body : ByteArray := prog_10_method_83_code
def yX8_body : MethodName := ⟨RX8, "body", "(I)I"⟩
abbrev cX8_isSheet : ByteArray := prog_10_method_84_code
def yX8_isSheet : MethodName := ⟨RX8, "isSheet", "(I)Z"⟩
abbrev cX8_sheet : ByteArray := prog_10_method_85_code
def yX8_sheet : MethodName := ⟨RX8, "sheet", "(III)I"⟩
abbrev cX8_notThere : ByteArray := prog_10_method_86_code
def yX8_notThere : MethodName := ⟨RX8, "notThere", "(I)I"⟩
abbrev cX8_put : ByteArray := prog_10_method_87_code
def yX8_put : MethodName := ⟨RX8, "put", "(III)I"⟩
abbrev cX8_notMoved : ByteArray := prog_10_method_88_code
def yX8_notMoved : MethodName := ⟨RX8, "notMoved", "(IIIII)I"⟩
abbrev cX8_move : ByteArray := prog_10_method_89_code
def yX8_move : MethodName := ⟨RX8, "move", "(IIIII)I"⟩
abbrev cX8_weights : ByteArray := prog_10_method_90_code
def yX8_weights : MethodName := ⟨RX8, "weights", "(I)I"⟩
abbrev cX8_judge : ByteArray := prog_10_method_91_code
def yX8_judge : MethodName := ⟨RX8, "judge", "(I)I"⟩
abbrev cX8_image : ByteArray := prog_10_method_92_code
def yX8_image : MethodName := ⟨RX8, "image", "()I"⟩
abbrev cX8_restore : ByteArray := prog_10_method_93_code
def yX8_restore : MethodName := ⟨RX8, "restore", "()I"⟩
abbrev cX8_tell : ByteArray := prog_10_method_94_code
def yX8_tell : MethodName := ⟨RX8, "tell", "(I)I"⟩
abbrev cX8_check : ByteArray := prog_10_method_95_code
def yX8_check : MethodName := ⟨RX8, "check", "()I"⟩
abbrev cX8_count : ByteArray := prog_10_method_96_code
def yX8_count : MethodName := ⟨RX8, "count", "(I)I"⟩
abbrev cX8_told : ByteArray := prog_10_method_97_code
def yX8_told : MethodName := ⟨RX8, "told", "(I)I"⟩
def RJ11 : String := "java/lang/Character"
def TJ11 : u_T := fun k => match k with
  | _ => ("", "", "", false)
abbrev cJ11_isValidCodePoint_9a6ad : ByteArray := prog_11_method_11_code
def yJ11_isValidCodePoint_9a6ad : MethodName := ⟨RJ11, "isValidCodePoint", "(I)Z"⟩
abbrev cJ11_highSurrogate_5068e : ByteArray := prog_11_method_28_code
def yJ11_highSurrogate_5068e : MethodName := ⟨RJ11, "highSurrogate", "(I)C"⟩
abbrev cJ11_lowSurrogate_5068e : ByteArray := prog_11_method_29_code
def yJ11_lowSurrogate_5068e : MethodName := ⟨RJ11, "lowSurrogate", "(I)C"⟩
def RJ6 : String := "java/lang/Integer"
def TJ6 : u_T := fun k => match k with
  | _ => ("", "", "", false)
abbrev cJ6_bitCount_0f7a4 : ByteArray := prog_12_method_49_code
def yJ6_bitCount_0f7a4 : MethodName := ⟨RJ6, "bitCount", "(I)I"⟩
def RJ9 : String := "java/lang/Math"
def TJ9 : u_T := fun k => match k with
  | _ => ("", "", "", false)
abbrev cJ9_max_7cf53 : ByteArray := prog_13_method_65_code
def yJ9_max_7cf53 : MethodName := ⟨RJ9, "max", "(II)I"⟩
abbrev cJ9_min_7cf53 : ByteArray := prog_13_method_69_code
def yJ9_min_7cf53 : MethodName := ⟨RJ9, "min", "(II)I"⟩
def RJ0 : String := "java/lang/String"
def TJ0 : u_T := fun k => match k with
  | _ => ("", "", "", false)
abbrev cJ0_length_8abf5 : ByteArray := prog_14_method_54_code
def yJ0_length_8abf5 : MethodName := ⟨RJ0, "length", "()I"⟩
abbrev cJ0_indexOf_0f7a4 : ByteArray := prog_14_method_79_code
def yJ0_indexOf_0f7a4 : MethodName := ⟨RJ0, "indexOf", "(I)I"⟩
abbrev cJ0_indexOf_7cf53 : ByteArray := prog_14_method_80_code
def yJ0_indexOf_7cf53 : MethodName := ⟨RJ0, "indexOf", "(II)I"⟩
abbrev cJ0_coder_7d493 : ByteArray := prog_14_method_152_code
def yJ0_coder_7d493 : MethodName := ⟨RJ0, "coder", "()B"⟩
abbrev cJ0_isLatin1_aae02 : ByteArray := prog_14_method_154_code
def yJ0_isLatin1_aae02 : MethodName := ⟨RJ0, "isLatin1", "()Z"⟩
abbrev cJ0_checkBoundsBeginEnd_23922 : ByteArray := prog_14_method_158_code
def yJ0_checkBoundsBeginEnd_23922 : MethodName := ⟨RJ0, "checkBoundsBeginEnd", "(III)V"⟩
def RJ1 : String := "java/lang/StringLatin1"
def TJ1 : u_T := fun k => match k with
  | _ => ("", "", "", false)
abbrev cJ1_canEncode_9a6ad : ByteArray := prog_15_method_4_code
def yJ1_canEncode_9a6ad : MethodName := ⟨RJ1, "canEncode", "(I)Z"⟩
abbrev cJ1_indexOf_4cfef : ByteArray := prog_15_method_22_code
def yJ1_indexOf_4cfef : MethodName := ⟨RJ1, "indexOf", "([BIII)I"⟩
abbrev cJ1_indexOfChar_4cfef : ByteArray := prog_15_method_23_code
def yJ1_indexOfChar_4cfef : MethodName := ⟨RJ1, "indexOfChar", "([BIII)I"⟩
def RJ2 : String := "java/lang/StringUTF16"
def TJ2 : u_T := fun k => match k with
  | _ => ("", "", "", false)
abbrev cJ2_getChar_3b067 : ByteArray := prog_16_method_5_code
def yJ2_getChar_3b067 : MethodName := ⟨RJ2, "getChar", "([BI)C"⟩
abbrev cJ2_length_9d52b : ByteArray := prog_16_method_6_code
def yJ2_length_9d52b : MethodName := ⟨RJ2, "length", "([B)I"⟩
abbrev cJ2_indexOf_4cfef : ByteArray := prog_16_method_40_code
def yJ2_indexOf_4cfef : MethodName := ⟨RJ2, "indexOf", "([BIII)I"⟩
abbrev cJ2_indexOfChar_4cfef : ByteArray := prog_16_method_47_code
def yJ2_indexOfChar_4cfef : MethodName := ⟨RJ2, "indexOfChar", "([BIII)I"⟩
abbrev cJ2_indexOfCharUnsafe_4cfef : ByteArray := prog_16_method_48_code
def yJ2_indexOfCharUnsafe_4cfef : MethodName := ⟨RJ2, "indexOfCharUnsafe", "([BIII)I"⟩
abbrev cJ2_indexOfSupplementary_4cfef : ByteArray := prog_16_method_49_code
def yJ2_indexOfSupplementary_4cfef : MethodName := ⟨RJ2, "indexOfSupplementary", "([BIII)I"⟩
abbrev cJ2_checkBoundsBeginEnd_d044e : ByteArray := prog_16_method_93_code
def yJ2_checkBoundsBeginEnd_d044e : MethodName := ⟨RJ2, "checkBoundsBeginEnd", "(II[B)V"⟩
def RJ10 : String := "java/lang/System"
def TJ10 : u_T := fun k => match k with
  | _ => ("", "", "", false)
def RJ3 : String := "jdk/internal/util/Preconditions"
def TJ3 : u_T := fun k => match k with
  | _ => ("", "", "", false)
abbrev cJ3_checkFromToIndex_8c36e : ByteArray := prog_18_method_12_code
def yJ3_checkFromToIndex_8c36e : MethodName := ⟨RJ3, "checkFromToIndex", "(IIILjava/util/function/BiFunction;)I"⟩
def RL : String := "BagBottomLaw"
abbrev cL_law : ByteArray := code
def yL_law : MethodName := ⟨RL, "law", "([I)Z"⟩
abbrev vwCl : List vw_C := [(RX0, TX0, 11), (RX1, TX1, 2), (RX2, TX2, 2), (RX3, TX3, 6), (RX4, TX4, 4), (RX5, TX5, 5), (RX6, TX6, 5), (RX7, TX7, 7), (RX8, TX8, 23)]
end
section
theorem dX0_init_0 : decode cX0_init 0 = .ok (.aload_n 0, 1) := by decide +kernel
theorem dX0_init_1 : decode cX0_init 1 = .ok (.invokespecial 3, 3) := by decide +kernel
theorem dX0_init_4 : decode cX0_init 4 = .ok (.aload_n 0, 1) := by decide +kernel
theorem dX0_init_5 : decode cX0_init 5 = .ok (.bipush 9, 2) := by decide +kernel
theorem dX0_init_7 : decode cX0_init 7 = .ok (.anewarray 9, 3) := by decide +kernel
theorem dX0_init_10 : decode cX0_init 10 = .ok (.putfield 11, 3) := by decide +kernel
theorem dX0_init_13 : decode cX0_init 13 = .ok (.aload_n 0, 1) := by decide +kernel
theorem dX0_init_14 : decode cX0_init 14 = .ok (.new 17, 3) := by decide +kernel
theorem dX0_init_17 : decode cX0_init 17 = .ok (.dup, 1) := by decide +kernel
theorem dX0_init_18 : decode cX0_init 18 = .ok (.bipush 9, 2) := by decide +kernel
theorem dX0_init_20 : decode cX0_init 20 = .ok (.invokespecial 19, 3) := by decide +kernel
theorem dX0_init_23 : decode cX0_init 23 = .ok (.putfield 22, 3) := by decide +kernel
theorem dX0_init_26 : decode cX0_init 26 = .ok (.aload_n 0, 1) := by decide +kernel
theorem dX0_init_27 : decode cX0_init 27 = .ok (.iconst (-1), 1) := by decide +kernel
theorem dX0_init_28 : decode cX0_init 28 = .ok (.putfield 26, 3) := by decide +kernel
theorem dX0_init_31 : decode cX0_init 31 = .ok (.aload_n 0, 1) := by decide +kernel
theorem dX0_init_32 : decode cX0_init 32 = .ok (.iconst 1, 1) := by decide +kernel
theorem dX0_init_33 : decode cX0_init 33 = .ok (.putfield 30, 3) := by decide +kernel
theorem dX0_init_36 : decode cX0_init 36 = .ok (.aload_n 0, 1) := by decide +kernel
theorem dX0_init_37 : decode cX0_init 37 = .ok (.new 17, 3) := by decide +kernel
theorem dX0_init_40 : decode cX0_init 40 = .ok (.dup, 1) := by decide +kernel
theorem dX0_init_41 : decode cX0_init 41 = .ok (.bipush 60, 2) := by decide +kernel
theorem dX0_init_43 : decode cX0_init 43 = .ok (.invokespecial 19, 3) := by decide +kernel
theorem dX0_init_46 : decode cX0_init 46 = .ok (.putfield 33, 3) := by decide +kernel
theorem dX0_init_49 : decode cX0_init 49 = .ok (.aload_n 0, 1) := by decide +kernel
theorem dX0_init_50 : decode cX0_init 50 = .ok (.iconst 2, 1) := by decide +kernel
theorem dX0_init_51 : decode cX0_init 51 = .ok (.anewarray 36, 3) := by decide +kernel
theorem dX0_init_54 : decode cX0_init 54 = .ok (.putfield 38, 3) := by decide +kernel
theorem dX0_init_57 : decode cX0_init 57 = .ok (.aload_n 0, 1) := by decide +kernel
theorem dX0_init_58 : decode cX0_init 58 = .ok (.new 17, 3) := by decide +kernel
theorem dX0_init_61 : decode cX0_init 61 = .ok (.dup, 1) := by decide +kernel
theorem dX0_init_62 : decode cX0_init 62 = .ok (.bipush 24, 2) := by decide +kernel
theorem dX0_init_64 : decode cX0_init 64 = .ok (.invokespecial 19, 3) := by decide +kernel
theorem dX0_init_67 : decode cX0_init 67 = .ok (.putfield 42, 3) := by decide +kernel
theorem dX0_init_70 : decode cX0_init 70 = .ok (.aload_n 0, 1) := by decide +kernel
theorem dX0_init_71 : decode cX0_init 71 = .ok (.bipush 54, 2) := by decide +kernel
theorem dX0_init_73 : decode cX0_init 73 = .ok (.newarray .int, 2) := by decide +kernel
theorem dX0_init_75 : decode cX0_init 75 = .ok (.putfield 45, 3) := by decide +kernel
theorem dX0_init_78 : decode cX0_init 78 = .ok (.iconst 0, 1) := by decide +kernel
theorem dX0_init_79 : decode cX0_init 79 = .ok (.istore_n 1, 1) := by decide +kernel
theorem dX0_init_80 : decode cX0_init 80 = .ok (.iload_n 1, 1) := by decide +kernel
theorem dX0_init_81 : decode cX0_init 81 = .ok (.bipush 9, 2) := by decide +kernel
theorem dX0_init_83 : decode cX0_init 83 = .ok (.if_icmp .ge 22, 3) := by decide +kernel
theorem dX0_init_86 : decode cX0_init 86 = .ok (.aload_n 0, 1) := by decide +kernel
theorem dX0_init_87 : decode cX0_init 87 = .ok (.getfield 11, 3) := by decide +kernel
theorem dX0_init_90 : decode cX0_init 90 = .ok (.iload_n 1, 1) := by decide +kernel
theorem dX0_init_91 : decode cX0_init 91 = .ok (.new 9, 3) := by decide +kernel
theorem dX0_init_94 : decode cX0_init 94 = .ok (.dup, 1) := by decide +kernel
theorem dX0_init_95 : decode cX0_init 95 = .ok (.invokespecial 49, 3) := by decide +kernel
theorem dX0_init_98 : decode cX0_init 98 = .ok (.aastore, 1) := by decide +kernel
theorem dX0_init_99 : decode cX0_init 99 = .ok (.iinc 1 1, 3) := by decide +kernel
theorem dX0_init_102 : decode cX0_init 102 = .ok (.goto (-22), 3) := by decide +kernel
theorem dX0_init_105 : decode cX0_init 105 = .ok (.iconst 0, 1) := by decide +kernel
theorem dX0_init_106 : decode cX0_init 106 = .ok (.istore_n 1, 1) := by decide +kernel
theorem dX0_init_107 : decode cX0_init 107 = .ok (.iload_n 1, 1) := by decide +kernel
theorem dX0_init_108 : decode cX0_init 108 = .ok (.iconst 2, 1) := by decide +kernel
theorem dX0_init_109 : decode cX0_init 109 = .ok (.if_icmp .ge 22, 3) := by decide +kernel
theorem dX0_init_112 : decode cX0_init 112 = .ok (.aload_n 0, 1) := by decide +kernel
theorem dX0_init_113 : decode cX0_init 113 = .ok (.getfield 38, 3) := by decide +kernel
theorem dX0_init_116 : decode cX0_init 116 = .ok (.iload_n 1, 1) := by decide +kernel
theorem dX0_init_117 : decode cX0_init 117 = .ok (.new 36, 3) := by decide +kernel
theorem dX0_init_120 : decode cX0_init 120 = .ok (.dup, 1) := by decide +kernel
theorem dX0_init_121 : decode cX0_init 121 = .ok (.invokespecial 50, 3) := by decide +kernel
theorem dX0_init_124 : decode cX0_init 124 = .ok (.aastore, 1) := by decide +kernel
theorem dX0_init_125 : decode cX0_init 125 = .ok (.iinc 1 1, 3) := by decide +kernel
theorem dX0_init_128 : decode cX0_init 128 = .ok (.goto (-21), 3) := by decide +kernel
theorem dX0_init_131 : decode cX0_init 131 = .ok (.return_, 1) := by decide +kernel
theorem dX0_knows_0 : decode cX0_knows 0 = .ok (.iload_n 1, 1) := by decide +kernel
theorem dX0_knows_1 : decode cX0_knows 1 = .ok (.ifCond .lt 15, 3) := by decide +kernel
theorem dX0_knows_4 : decode cX0_knows 4 = .ok (.iload_n 1, 1) := by decide +kernel
theorem dX0_knows_5 : decode cX0_knows 5 = .ok (.aload_n 0, 1) := by decide +kernel
theorem dX0_knows_6 : decode cX0_knows 6 = .ok (.getfield 51, 3) := by decide +kernel
theorem dX0_knows_9 : decode cX0_knows 9 = .ok (.if_icmp .ge 7, 3) := by decide +kernel
theorem dX0_knows_12 : decode cX0_knows 12 = .ok (.iconst 1, 1) := by decide +kernel
theorem dX0_knows_13 : decode cX0_knows 13 = .ok (.goto 4, 3) := by decide +kernel
theorem dX0_knows_16 : decode cX0_knows 16 = .ok (.iconst 0, 1) := by decide +kernel
theorem dX0_knows_17 : decode cX0_knows 17 = .ok (.ireturn, 1) := by decide +kernel
theorem dX0_addThing_0 : decode cX0_addThing 0 = .ok (.aload_n 0, 1) := by decide +kernel
theorem dX0_addThing_1 : decode cX0_addThing 1 = .ok (.getfield 51, 3) := by decide +kernel
theorem dX0_addThing_4 : decode cX0_addThing 4 = .ok (.istore 4, 2) := by decide +kernel
theorem dX0_addThing_6 : decode cX0_addThing 6 = .ok (.aload_n 0, 1) := by decide +kernel
theorem dX0_addThing_7 : decode cX0_addThing 7 = .ok (.getfield 11, 3) := by decide +kernel
theorem dX0_addThing_10 : decode cX0_addThing 10 = .ok (.iload 4, 2) := by decide +kernel
theorem dX0_addThing_12 : decode cX0_addThing 12 = .ok (.aaload, 1) := by decide +kernel
theorem dX0_addThing_13 : decode cX0_addThing 13 = .ok (.astore 5, 2) := by decide +kernel
theorem dX0_addThing_15 : decode cX0_addThing 15 = .ok (.aload 5, 2) := by decide +kernel
theorem dX0_addThing_17 : decode cX0_addThing 17 = .ok (.iload_n 1, 1) := by decide +kernel
theorem dX0_addThing_18 : decode cX0_addThing 18 = .ok (.bipush 10, 2) := by decide +kernel
theorem dX0_addThing_20 : decode cX0_addThing 20 = .ok (.idiv, 1) := by decide +kernel
theorem dX0_addThing_21 : decode cX0_addThing 21 = .ok (.putfield 54, 3) := by decide +kernel
theorem dX0_addThing_24 : decode cX0_addThing 24 = .ok (.aload 5, 2) := by decide +kernel
theorem dX0_addThing_26 : decode cX0_addThing 26 = .ok (.iload_n 1, 1) := by decide +kernel
theorem dX0_addThing_27 : decode cX0_addThing 27 = .ok (.bipush 10, 2) := by decide +kernel
theorem dX0_addThing_29 : decode cX0_addThing 29 = .ok (.irem, 1) := by decide +kernel
theorem dX0_addThing_30 : decode cX0_addThing 30 = .ok (.putfield 57, 3) := by decide +kernel
theorem dX0_addThing_33 : decode cX0_addThing 33 = .ok (.aload 5, 2) := by decide +kernel
theorem dX0_addThing_35 : decode cX0_addThing 35 = .ok (.iload_n 2, 1) := by decide +kernel
theorem dX0_addThing_36 : decode cX0_addThing 36 = .ok (.putfield 60, 3) := by decide +kernel
theorem dX0_addThing_39 : decode cX0_addThing 39 = .ok (.aload 5, 2) := by decide +kernel
theorem dX0_addThing_41 : decode cX0_addThing 41 = .ok (.iload_n 3, 1) := by decide +kernel
theorem dX0_addThing_42 : decode cX0_addThing 42 = .ok (.putfield 63, 3) := by decide +kernel
theorem dX0_addThing_45 : decode cX0_addThing 45 = .ok (.aload_n 0, 1) := by decide +kernel
theorem dX0_addThing_46 : decode cX0_addThing 46 = .ok (.dup, 1) := by decide +kernel
theorem dX0_addThing_47 : decode cX0_addThing 47 = .ok (.getfield 51, 3) := by decide +kernel
theorem dX0_addThing_50 : decode cX0_addThing 50 = .ok (.iconst 1, 1) := by decide +kernel
theorem dX0_addThing_51 : decode cX0_addThing 51 = .ok (.iadd, 1) := by decide +kernel
theorem dX0_addThing_52 : decode cX0_addThing 52 = .ok (.putfield 51, 3) := by decide +kernel
theorem dX0_addThing_55 : decode cX0_addThing 55 = .ok (.aload_n 0, 1) := by decide +kernel
theorem dX0_addThing_56 : decode cX0_addThing 56 = .ok (.getfield 22, 3) := by decide +kernel
theorem dX0_addThing_59 : decode cX0_addThing 59 = .ok (.iload 4, 2) := by decide +kernel
theorem dX0_addThing_61 : decode cX0_addThing 61 = .ok (.invokevirtual 66, 3) := by decide +kernel
theorem dX0_addThing_64 : decode cX0_addThing 64 = .ok (.iload 4, 2) := by decide +kernel
theorem dX0_addThing_66 : decode cX0_addThing 66 = .ok (.ireturn, 1) := by decide +kernel
theorem dX0_whereIs_0 : decode cX0_whereIs 0 = .ok (.aload_n 0, 1) := by decide +kernel
theorem dX0_whereIs_1 : decode cX0_whereIs 1 = .ok (.getfield 22, 3) := by decide +kernel
theorem dX0_whereIs_4 : decode cX0_whereIs 4 = .ok (.iload_n 1, 1) := by decide +kernel
theorem dX0_whereIs_5 : decode cX0_whereIs 5 = .ok (.invokevirtual 69, 3) := by decide +kernel
theorem dX0_whereIs_8 : decode cX0_whereIs 8 = .ok (.istore_n 2, 1) := by decide +kernel
theorem dX0_whereIs_9 : decode cX0_whereIs 9 = .ok (.iload_n 2, 1) := by decide +kernel
theorem dX0_whereIs_10 : decode cX0_whereIs 10 = .ok (.ifCond .lt 5, 3) := by decide +kernel
theorem dX0_whereIs_13 : decode cX0_whereIs 13 = .ok (.iload_n 2, 1) := by decide +kernel
theorem dX0_whereIs_14 : decode cX0_whereIs 14 = .ok (.ireturn, 1) := by decide +kernel
theorem dX0_whereIs_15 : decode cX0_whereIs 15 = .ok (.aload_n 0, 1) := by decide +kernel
theorem dX0_whereIs_16 : decode cX0_whereIs 16 = .ok (.getfield 26, 3) := by decide +kernel
theorem dX0_whereIs_19 : decode cX0_whereIs 19 = .ok (.iload_n 1, 1) := by decide +kernel
theorem dX0_whereIs_20 : decode cX0_whereIs 20 = .ok (.if_icmp .ne 7, 3) := by decide +kernel
theorem dX0_whereIs_23 : decode cX0_whereIs 23 = .ok (.iconst (-1), 1) := by decide +kernel
theorem dX0_whereIs_24 : decode cX0_whereIs 24 = .ok (.goto 5, 3) := by decide +kernel
theorem dX0_whereIs_27 : decode cX0_whereIs 27 = .ok (.bipush (-2), 2) := by decide +kernel
theorem dX0_whereIs_29 : decode cX0_whereIs 29 = .ok (.ireturn, 1) := by decide +kernel
theorem dX0_bringOut_0 : decode cX0_bringOut 0 = .ok (.aload_n 0, 1) := by decide +kernel
theorem dX0_bringOut_1 : decode cX0_bringOut 1 = .ok (.getfield 26, 3) := by decide +kernel
theorem dX0_bringOut_4 : decode cX0_bringOut 4 = .ok (.iload_n 1, 1) := by decide +kernel
theorem dX0_bringOut_5 : decode cX0_bringOut 5 = .ok (.if_icmp .ne 8, 3) := by decide +kernel
theorem dX0_bringOut_8 : decode cX0_bringOut 8 = .ok (.aload_n 0, 1) := by decide +kernel
theorem dX0_bringOut_9 : decode cX0_bringOut 9 = .ok (.iconst (-1), 1) := by decide +kernel
theorem dX0_bringOut_10 : decode cX0_bringOut 10 = .ok (.putfield 26, 3) := by decide +kernel
theorem dX0_bringOut_13 : decode cX0_bringOut 13 = .ok (.aload_n 0, 1) := by decide +kernel
theorem dX0_bringOut_14 : decode cX0_bringOut 14 = .ok (.getfield 22, 3) := by decide +kernel
theorem dX0_bringOut_17 : decode cX0_bringOut 17 = .ok (.aload_n 0, 1) := by decide +kernel
theorem dX0_bringOut_18 : decode cX0_bringOut 18 = .ok (.getfield 22, 3) := by decide +kernel
theorem dX0_bringOut_21 : decode cX0_bringOut 21 = .ok (.iload_n 1, 1) := by decide +kernel
theorem dX0_bringOut_22 : decode cX0_bringOut 22 = .ok (.invokevirtual 69, 3) := by decide +kernel
theorem dX0_bringOut_25 : decode cX0_bringOut 25 = .ok (.invokevirtual 73, 3) := by decide +kernel
theorem dX0_bringOut_28 : decode cX0_bringOut 28 = .ok (.return_, 1) := by decide +kernel
theorem dX0_changePocket_0 : decode cX0_changePocket 0 = .ok (.aload_n 0, 1) := by decide +kernel
theorem dX0_changePocket_1 : decode cX0_changePocket 1 = .ok (.getfield 26, 3) := by decide +kernel
theorem dX0_changePocket_4 : decode cX0_changePocket 4 = .ok (.istore_n 2, 1) := by decide +kernel
theorem dX0_changePocket_5 : decode cX0_changePocket 5 = .ok (.iload_n 2, 1) := by decide +kernel
theorem dX0_changePocket_6 : decode cX0_changePocket 6 = .ok (.iconst (-1), 1) := by decide +kernel
theorem dX0_changePocket_7 : decode cX0_changePocket 7 = .ok (.if_icmp .eq 11, 3) := by decide +kernel
theorem dX0_changePocket_10 : decode cX0_changePocket 10 = .ok (.aload_n 0, 1) := by decide +kernel
theorem dX0_changePocket_11 : decode cX0_changePocket 11 = .ok (.getfield 22, 3) := by decide +kernel
theorem dX0_changePocket_14 : decode cX0_changePocket 14 = .ok (.iload_n 2, 1) := by decide +kernel
theorem dX0_changePocket_15 : decode cX0_changePocket 15 = .ok (.invokevirtual 66, 3) := by decide +kernel
theorem dX0_changePocket_18 : decode cX0_changePocket 18 = .ok (.aload_n 0, 1) := by decide +kernel
theorem dX0_changePocket_19 : decode cX0_changePocket 19 = .ok (.getfield 22, 3) := by decide +kernel
theorem dX0_changePocket_22 : decode cX0_changePocket 22 = .ok (.aload_n 0, 1) := by decide +kernel
theorem dX0_changePocket_23 : decode cX0_changePocket 23 = .ok (.getfield 22, 3) := by decide +kernel
theorem dX0_changePocket_26 : decode cX0_changePocket 26 = .ok (.iload_n 1, 1) := by decide +kernel
theorem dX0_changePocket_27 : decode cX0_changePocket 27 = .ok (.invokevirtual 69, 3) := by decide +kernel
theorem dX0_changePocket_30 : decode cX0_changePocket 30 = .ok (.invokevirtual 73, 3) := by decide +kernel
theorem dX0_changePocket_33 : decode cX0_changePocket 33 = .ok (.aload_n 0, 1) := by decide +kernel
theorem dX0_changePocket_34 : decode cX0_changePocket 34 = .ok (.iload_n 1, 1) := by decide +kernel
theorem dX0_changePocket_35 : decode cX0_changePocket 35 = .ok (.putfield 26, 3) := by decide +kernel
theorem dX0_changePocket_38 : decode cX0_changePocket 38 = .ok (.iload_n 2, 1) := by decide +kernel
theorem dX0_changePocket_39 : decode cX0_changePocket 39 = .ok (.ireturn, 1) := by decide +kernel
theorem dX0_takeWeights_0 : decode cX0_takeWeights 0 = .ok (.iconst 0, 1) := by decide +kernel
theorem dX0_takeWeights_1 : decode cX0_takeWeights 1 = .ok (.istore_n 2, 1) := by decide +kernel
theorem dX0_takeWeights_2 : decode cX0_takeWeights 2 = .ok (.iload_n 2, 1) := by decide +kernel
theorem dX0_takeWeights_3 : decode cX0_takeWeights 3 = .ok (.aload_n 1, 1) := by decide +kernel
theorem dX0_takeWeights_4 : decode cX0_takeWeights 4 = .ok (.getfield 76, 3) := by decide +kernel
theorem dX0_takeWeights_7 : decode cX0_takeWeights 7 = .ok (.if_icmp .ge 44, 3) := by decide +kernel
theorem dX0_takeWeights_10 : decode cX0_takeWeights 10 = .ok (.iload_n 2, 1) := by decide +kernel
theorem dX0_takeWeights_11 : decode cX0_takeWeights 11 = .ok (.aload_n 0, 1) := by decide +kernel
theorem dX0_takeWeights_12 : decode cX0_takeWeights 12 = .ok (.getfield 51, 3) := by decide +kernel
theorem dX0_takeWeights_15 : decode cX0_takeWeights 15 = .ok (.if_icmp .ge 36, 3) := by decide +kernel
theorem dX0_takeWeights_18 : decode cX0_takeWeights 18 = .ok (.aload_n 1, 1) := by decide +kernel
theorem dX0_takeWeights_19 : decode cX0_takeWeights 19 = .ok (.getfield 79, 3) := by decide +kernel
theorem dX0_takeWeights_22 : decode cX0_takeWeights 22 = .ok (.iload_n 2, 1) := by decide +kernel
theorem dX0_takeWeights_23 : decode cX0_takeWeights 23 = .ok (.iaload, 1) := by decide +kernel
theorem dX0_takeWeights_24 : decode cX0_takeWeights 24 = .ok (.invokestatic 82, 3) := by decide +kernel
theorem dX0_takeWeights_27 : decode cX0_takeWeights 27 = .ok (.ifCond .eq 24, 3) := by decide +kernel
theorem dX0_takeWeights_30 : decode cX0_takeWeights 30 = .ok (.aload_n 0, 1) := by decide +kernel
theorem dX0_takeWeights_31 : decode cX0_takeWeights 31 = .ok (.getfield 11, 3) := by decide +kernel
theorem dX0_takeWeights_34 : decode cX0_takeWeights 34 = .ok (.iload_n 2, 1) := by decide +kernel
theorem dX0_takeWeights_35 : decode cX0_takeWeights 35 = .ok (.aaload, 1) := by decide +kernel
theorem dX0_takeWeights_36 : decode cX0_takeWeights 36 = .ok (.aload_n 1, 1) := by decide +kernel
theorem dX0_takeWeights_37 : decode cX0_takeWeights 37 = .ok (.getfield 79, 3) := by decide +kernel
theorem dX0_takeWeights_40 : decode cX0_takeWeights 40 = .ok (.iload_n 2, 1) := by decide +kernel
theorem dX0_takeWeights_41 : decode cX0_takeWeights 41 = .ok (.iaload, 1) := by decide +kernel
theorem dX0_takeWeights_42 : decode cX0_takeWeights 42 = .ok (.putfield 60, 3) := by decide +kernel
theorem dX0_takeWeights_45 : decode cX0_takeWeights 45 = .ok (.iinc 2 1, 3) := by decide +kernel
theorem dX0_takeWeights_48 : decode cX0_takeWeights 48 = .ok (.goto (-46), 3) := by decide +kernel
theorem dX0_takeWeights_51 : decode cX0_takeWeights 51 = .ok (.iload_n 2, 1) := by decide +kernel
theorem dX0_takeWeights_52 : decode cX0_takeWeights 52 = .ok (.ireturn, 1) := by decide +kernel
theorem dX0_gives_0 : decode cX0_gives 0 = .ok (.aload_n 0, 1) := by decide +kernel
theorem dX0_gives_1 : decode cX0_gives 1 = .ok (.getfield 38, 3) := by decide +kernel
theorem dX0_gives_4 : decode cX0_gives 4 = .ok (.iload_n 1, 1) := by decide +kernel
theorem dX0_gives_5 : decode cX0_gives 5 = .ok (.aaload, 1) := by decide +kernel
theorem dX0_gives_6 : decode cX0_gives 6 = .ok (.astore 5, 2) := by decide +kernel
theorem dX0_gives_8 : decode cX0_gives 8 = .ok (.iload_n 1, 1) := by decide +kernel
theorem dX0_gives_9 : decode cX0_gives 9 = .ok (.ifCond .ne 9, 3) := by decide +kernel
theorem dX0_gives_12 : decode cX0_gives 12 = .ok (.iload_n 2, 1) := by decide +kernel
theorem dX0_gives_13 : decode cX0_gives 13 = .ok (.iload_n 3, 1) := by decide +kernel
theorem dX0_gives_14 : decode cX0_gives 14 = .ok (.iadd, 1) := by decide +kernel
theorem dX0_gives_15 : decode cX0_gives 15 = .ok (.goto 5, 3) := by decide +kernel
theorem dX0_gives_18 : decode cX0_gives 18 = .ok (.iload 4, 2) := by decide +kernel
theorem dX0_gives_20 : decode cX0_gives 20 = .ok (.istore 6, 2) := by decide +kernel
theorem dX0_gives_22 : decode cX0_gives 22 = .ok (.aload 5, 2) := by decide +kernel
theorem dX0_gives_24 : decode cX0_gives 24 = .ok (.invokevirtual 86, 3) := by decide +kernel
theorem dX0_gives_27 : decode cX0_gives 27 = .ok (.ifCond .eq 14, 3) := by decide +kernel
theorem dX0_gives_30 : decode cX0_gives 30 = .ok (.aload 5, 2) := by decide +kernel
theorem dX0_gives_32 : decode cX0_gives 32 = .ok (.iload_n 2, 1) := by decide +kernel
theorem dX0_gives_33 : decode cX0_gives 33 = .ok (.iload_n 3, 1) := by decide +kernel
theorem dX0_gives_34 : decode cX0_gives 34 = .ok (.iload 4, 2) := by decide +kernel
theorem dX0_gives_36 : decode cX0_gives 36 = .ok (.invokevirtual 90, 3) := by decide +kernel
theorem dX0_gives_39 : decode cX0_gives 39 = .ok (.istore 6, 2) := by decide +kernel
theorem dX0_gives_41 : decode cX0_gives 41 = .ok (.iconst 0, 1) := by decide +kernel
theorem dX0_gives_42 : decode cX0_gives 42 = .ok (.bipush 99, 2) := by decide +kernel
theorem dX0_gives_44 : decode cX0_gives 44 = .ok (.iload 6, 2) := by decide +kernel
theorem dX0_gives_46 : decode cX0_gives 46 = .ok (.invokestatic 94, 3) := by decide +kernel
theorem dX0_gives_49 : decode cX0_gives 49 = .ok (.invokestatic 100, 3) := by decide +kernel
theorem dX0_gives_52 : decode cX0_gives 52 = .ok (.ireturn, 1) := by decide +kernel
theorem dX0_usedOf_0 : decode cX0_usedOf 0 = .ok (.aload_n 0, 1) := by decide +kernel
theorem dX0_usedOf_1 : decode cX0_usedOf 1 = .ok (.iconst 1, 1) := by decide +kernel
theorem dX0_usedOf_2 : decode cX0_usedOf 2 = .ok (.iload_n 1, 1) := by decide +kernel
theorem dX0_usedOf_3 : decode cX0_usedOf 3 = .ok (.aload_n 0, 1) := by decide +kernel
theorem dX0_usedOf_4 : decode cX0_usedOf 4 = .ok (.getfield 11, 3) := by decide +kernel
theorem dX0_usedOf_7 : decode cX0_usedOf 7 = .ok (.iload_n 1, 1) := by decide +kernel
theorem dX0_usedOf_8 : decode cX0_usedOf 8 = .ok (.aaload, 1) := by decide +kernel
theorem dX0_usedOf_9 : decode cX0_usedOf 9 = .ok (.getfield 54, 3) := by decide +kernel
theorem dX0_usedOf_12 : decode cX0_usedOf 12 = .ok (.aload_n 0, 1) := by decide +kernel
theorem dX0_usedOf_13 : decode cX0_usedOf 13 = .ok (.getfield 11, 3) := by decide +kernel
theorem dX0_usedOf_16 : decode cX0_usedOf 16 = .ok (.iload_n 1, 1) := by decide +kernel
theorem dX0_usedOf_17 : decode cX0_usedOf 17 = .ok (.aaload, 1) := by decide +kernel
theorem dX0_usedOf_18 : decode cX0_usedOf 18 = .ok (.getfield 57, 3) := by decide +kernel
theorem dX0_usedOf_21 : decode cX0_usedOf 21 = .ok (.invokevirtual 103, 3) := by decide +kernel
theorem dX0_usedOf_24 : decode cX0_usedOf 24 = .ok (.ireturn, 1) := by decide +kernel
theorem dX0_time_0 : decode cX0_time 0 = .ok (.aload_n 0, 1) := by decide +kernel
theorem dX0_time_1 : decode cX0_time 1 = .ok (.getfield 22, 3) := by decide +kernel
theorem dX0_time_4 : decode cX0_time 4 = .ok (.iload_n 1, 1) := by decide +kernel
theorem dX0_time_5 : decode cX0_time 5 = .ok (.invokevirtual 69, 3) := by decide +kernel
theorem dX0_time_8 : decode cX0_time 8 = .ok (.istore_n 3, 1) := by decide +kernel
theorem dX0_time_9 : decode cX0_time 9 = .ok (.iload_n 3, 1) := by decide +kernel
theorem dX0_time_10 : decode cX0_time 10 = .ok (.ifCond .ge 5, 3) := by decide +kernel
theorem dX0_time_13 : decode cX0_time 13 = .ok (.iconst 4, 1) := by decide +kernel
theorem dX0_time_14 : decode cX0_time 14 = .ok (.ireturn, 1) := by decide +kernel
theorem dX0_time_15 : decode cX0_time 15 = .ok (.iload_n 2, 1) := by decide +kernel
theorem dX0_time_16 : decode cX0_time 16 = .ok (.iconst 1, 1) := by decide +kernel
theorem dX0_time_17 : decode cX0_time 17 = .ok (.if_icmp .ne 9, 3) := by decide +kernel
theorem dX0_time_20 : decode cX0_time 20 = .ok (.iconst 3, 1) := by decide +kernel
theorem dX0_time_21 : decode cX0_time 21 = .ok (.iconst 2, 1) := by decide +kernel
theorem dX0_time_22 : decode cX0_time 22 = .ok (.iload_n 3, 1) := by decide +kernel
theorem dX0_time_23 : decode cX0_time 23 = .ok (.imul, 1) := by decide +kernel
theorem dX0_time_24 : decode cX0_time 24 = .ok (.iadd, 1) := by decide +kernel
theorem dX0_time_25 : decode cX0_time 25 = .ok (.ireturn, 1) := by decide +kernel
theorem dX0_time_26 : decode cX0_time 26 = .ok (.iload_n 2, 1) := by decide +kernel
theorem dX0_time_27 : decode cX0_time 27 = .ok (.iconst 2, 1) := by decide +kernel
theorem dX0_time_28 : decode cX0_time 28 = .ok (.if_icmp .ne 16, 3) := by decide +kernel
theorem dX0_time_31 : decode cX0_time 31 = .ok (.bipush 9, 2) := by decide +kernel
theorem dX0_time_33 : decode cX0_time 33 = .ok (.iconst 2, 1) := by decide +kernel
theorem dX0_time_34 : decode cX0_time 34 = .ok (.aload_n 0, 1) := by decide +kernel
theorem dX0_time_35 : decode cX0_time 35 = .ok (.getfield 22, 3) := by decide +kernel
theorem dX0_time_38 : decode cX0_time 38 = .ok (.getfield 76, 3) := by decide +kernel
theorem dX0_time_41 : decode cX0_time 41 = .ok (.imul, 1) := by decide +kernel
theorem dX0_time_42 : decode cX0_time 42 = .ok (.iadd, 1) := by decide +kernel
theorem dX0_time_43 : decode cX0_time 43 = .ok (.ireturn, 1) := by decide +kernel
theorem dX0_time_44 : decode cX0_time 44 = .ok (.iconst 0, 1) := by decide +kernel
theorem dX0_time_45 : decode cX0_time 45 = .ok (.istore 4, 2) := by decide +kernel
theorem dX0_time_47 : decode cX0_time 47 = .ok (.iconst 0, 1) := by decide +kernel
theorem dX0_time_48 : decode cX0_time 48 = .ok (.istore 5, 2) := by decide +kernel
theorem dX0_time_50 : decode cX0_time 50 = .ok (.iload 5, 2) := by decide +kernel
theorem dX0_time_52 : decode cX0_time 52 = .ok (.iload_n 3, 1) := by decide +kernel
theorem dX0_time_53 : decode cX0_time 53 = .ok (.if_icmp .gt 48, 3) := by decide +kernel
theorem dX0_time_56 : decode cX0_time 56 = .ok (.aload_n 0, 1) := by decide +kernel
theorem dX0_time_57 : decode cX0_time 57 = .ok (.getfield 11, 3) := by decide +kernel
theorem dX0_time_60 : decode cX0_time 60 = .ok (.aload_n 0, 1) := by decide +kernel
theorem dX0_time_61 : decode cX0_time 61 = .ok (.getfield 22, 3) := by decide +kernel
theorem dX0_time_64 : decode cX0_time 64 = .ok (.getfield 79, 3) := by decide +kernel
theorem dX0_time_67 : decode cX0_time 67 = .ok (.iload 5, 2) := by decide +kernel
theorem dX0_time_69 : decode cX0_time 69 = .ok (.iaload, 1) := by decide +kernel
theorem dX0_time_70 : decode cX0_time 70 = .ok (.aaload, 1) := by decide +kernel
theorem dX0_time_71 : decode cX0_time 71 = .ok (.astore 6, 2) := by decide +kernel
theorem dX0_time_73 : decode cX0_time 73 = .ok (.iload 4, 2) := by decide +kernel
theorem dX0_time_75 : decode cX0_time 75 = .ok (.aload_n 0, 1) := by decide +kernel
theorem dX0_time_76 : decode cX0_time 76 = .ok (.iconst 0, 1) := by decide +kernel
theorem dX0_time_77 : decode cX0_time 77 = .ok (.aload 6, 2) := by decide +kernel
theorem dX0_time_79 : decode cX0_time 79 = .ok (.invokevirtual 107, 3) := by decide +kernel
theorem dX0_time_82 : decode cX0_time 82 = .ok (.iload 5, 2) := by decide +kernel
theorem dX0_time_84 : decode cX0_time 84 = .ok (.aload 6, 2) := by decide +kernel
theorem dX0_time_86 : decode cX0_time 86 = .ok (.getfield 54, 3) := by decide +kernel
theorem dX0_time_89 : decode cX0_time 89 = .ok (.invokevirtual 103, 3) := by decide +kernel
theorem dX0_time_92 : decode cX0_time 92 = .ok (.iadd, 1) := by decide +kernel
theorem dX0_time_93 : decode cX0_time 93 = .ok (.istore 4, 2) := by decide +kernel
theorem dX0_time_95 : decode cX0_time 95 = .ok (.iinc 5 1, 3) := by decide +kernel
theorem dX0_time_98 : decode cX0_time 98 = .ok (.goto (-48), 3) := by decide +kernel
theorem dX0_time_101 : decode cX0_time 101 = .ok (.iload 4, 2) := by decide +kernel
theorem dX0_time_103 : decode cX0_time 103 = .ok (.ireturn, 1) := by decide +kernel
theorem dX0_bestWay_0 : decode cX0_bestWay 0 = .ok (.iconst 0, 1) := by decide +kernel
theorem dX0_bestWay_1 : decode cX0_bestWay 1 = .ok (.istore_n 2, 1) := by decide +kernel
theorem dX0_bestWay_2 : decode cX0_bestWay 2 = .ok (.aload_n 0, 1) := by decide +kernel
theorem dX0_bestWay_3 : decode cX0_bestWay 3 = .ok (.iload_n 1, 1) := by decide +kernel
theorem dX0_bestWay_4 : decode cX0_bestWay 4 = .ok (.iconst 0, 1) := by decide +kernel
theorem dX0_bestWay_5 : decode cX0_bestWay 5 = .ok (.invokevirtual 111, 3) := by decide +kernel
theorem dX0_bestWay_8 : decode cX0_bestWay 8 = .ok (.istore_n 3, 1) := by decide +kernel
theorem dX0_bestWay_9 : decode cX0_bestWay 9 = .ok (.iconst 1, 1) := by decide +kernel
theorem dX0_bestWay_10 : decode cX0_bestWay 10 = .ok (.istore 4, 2) := by decide +kernel
theorem dX0_bestWay_12 : decode cX0_bestWay 12 = .ok (.iload 4, 2) := by decide +kernel
theorem dX0_bestWay_14 : decode cX0_bestWay 14 = .ok (.iconst 3, 1) := by decide +kernel
theorem dX0_bestWay_15 : decode cX0_bestWay 15 = .ok (.if_icmp .ge 30, 3) := by decide +kernel
theorem dX0_bestWay_18 : decode cX0_bestWay 18 = .ok (.aload_n 0, 1) := by decide +kernel
theorem dX0_bestWay_19 : decode cX0_bestWay 19 = .ok (.iload_n 1, 1) := by decide +kernel
theorem dX0_bestWay_20 : decode cX0_bestWay 20 = .ok (.iload 4, 2) := by decide +kernel
theorem dX0_bestWay_22 : decode cX0_bestWay 22 = .ok (.invokevirtual 111, 3) := by decide +kernel
theorem dX0_bestWay_25 : decode cX0_bestWay 25 = .ok (.istore 5, 2) := by decide +kernel
theorem dX0_bestWay_27 : decode cX0_bestWay 27 = .ok (.iload 5, 2) := by decide +kernel
theorem dX0_bestWay_29 : decode cX0_bestWay 29 = .ok (.iload_n 3, 1) := by decide +kernel
theorem dX0_bestWay_30 : decode cX0_bestWay 30 = .ok (.if_icmp .ge 9, 3) := by decide +kernel
theorem dX0_bestWay_33 : decode cX0_bestWay 33 = .ok (.iload 5, 2) := by decide +kernel
theorem dX0_bestWay_35 : decode cX0_bestWay 35 = .ok (.istore_n 3, 1) := by decide +kernel
theorem dX0_bestWay_36 : decode cX0_bestWay 36 = .ok (.iload 4, 2) := by decide +kernel
theorem dX0_bestWay_38 : decode cX0_bestWay 38 = .ok (.istore_n 2, 1) := by decide +kernel
theorem dX0_bestWay_39 : decode cX0_bestWay 39 = .ok (.iinc 4 1, 3) := by decide +kernel
theorem dX0_bestWay_42 : decode cX0_bestWay 42 = .ok (.goto (-30), 3) := by decide +kernel
theorem dX0_bestWay_45 : decode cX0_bestWay 45 = .ok (.iload_n 2, 1) := by decide +kernel
theorem dX0_bestWay_46 : decode cX0_bestWay 46 = .ok (.ireturn, 1) := by decide +kernel
theorem dX0_take_0 : decode cX0_take 0 = .ok (.aload_n 0, 1) := by decide +kernel
theorem dX0_take_1 : decode cX0_take 1 = .ok (.iload_n 1, 1) := by decide +kernel
theorem dX0_take_2 : decode cX0_take 2 = .ok (.iload_n 2, 1) := by decide +kernel
theorem dX0_take_3 : decode cX0_take 3 = .ok (.invokevirtual 111, 3) := by decide +kernel
theorem dX0_take_6 : decode cX0_take 6 = .ok (.istore_n 3, 1) := by decide +kernel
theorem dX0_take_7 : decode cX0_take 7 = .ok (.aload_n 0, 1) := by decide +kernel
theorem dX0_take_8 : decode cX0_take 8 = .ok (.ldc 114, 2) := by decide +kernel
theorem dX0_take_10 : decode cX0_take 10 = .ok (.aload_n 0, 1) := by decide +kernel
theorem dX0_take_11 : decode cX0_take 11 = .ok (.getfield 115, 3) := by decide +kernel
theorem dX0_take_14 : decode cX0_take 14 = .ok (.iload_n 3, 1) := by decide +kernel
theorem dX0_take_15 : decode cX0_take 15 = .ok (.iadd, 1) := by decide +kernel
theorem dX0_take_16 : decode cX0_take 16 = .ok (.invokestatic 94, 3) := by decide +kernel
theorem dX0_take_19 : decode cX0_take 19 = .ok (.putfield 115, 3) := by decide +kernel
theorem dX0_take_22 : decode cX0_take 22 = .ok (.aload_n 0, 1) := by decide +kernel
theorem dX0_take_23 : decode cX0_take 23 = .ok (.getfield 26, 3) := by decide +kernel
theorem dX0_take_26 : decode cX0_take 26 = .ok (.iload_n 1, 1) := by decide +kernel
theorem dX0_take_27 : decode cX0_take 27 = .ok (.if_icmp .ne 5, 3) := by decide +kernel
theorem dX0_take_30 : decode cX0_take 30 = .ok (.iload_n 3, 1) := by decide +kernel
theorem dX0_take_31 : decode cX0_take 31 = .ok (.ireturn, 1) := by decide +kernel
theorem dX0_take_32 : decode cX0_take 32 = .ok (.iload_n 2, 1) := by decide +kernel
theorem dX0_take_33 : decode cX0_take 33 = .ok (.iconst 2, 1) := by decide +kernel
theorem dX0_take_34 : decode cX0_take 34 = .ok (.if_icmp .ne 11, 3) := by decide +kernel
theorem dX0_take_37 : decode cX0_take 37 = .ok (.aload_n 0, 1) := by decide +kernel
theorem dX0_take_38 : decode cX0_take 38 = .ok (.getfield 22, 3) := by decide +kernel
theorem dX0_take_41 : decode cX0_take 41 = .ok (.iconst 0, 1) := by decide +kernel
theorem dX0_take_42 : decode cX0_take 42 = .ok (.invokevirtual 118, 3) := by decide +kernel
theorem dX0_take_45 : decode cX0_take 45 = .ok (.aload_n 0, 1) := by decide +kernel
theorem dX0_take_46 : decode cX0_take 46 = .ok (.getfield 22, 3) := by decide +kernel
theorem dX0_take_49 : decode cX0_take 49 = .ok (.aload_n 0, 1) := by decide +kernel
theorem dX0_take_50 : decode cX0_take 50 = .ok (.getfield 22, 3) := by decide +kernel
theorem dX0_take_53 : decode cX0_take 53 = .ok (.iload_n 1, 1) := by decide +kernel
theorem dX0_take_54 : decode cX0_take 54 = .ok (.invokevirtual 69, 3) := by decide +kernel
theorem dX0_take_57 : decode cX0_take 57 = .ok (.invokevirtual 73, 3) := by decide +kernel
theorem dX0_take_60 : decode cX0_take 60 = .ok (.aload_n 0, 1) := by decide +kernel
theorem dX0_take_61 : decode cX0_take 61 = .ok (.getfield 22, 3) := by decide +kernel
theorem dX0_take_64 : decode cX0_take 64 = .ok (.iload_n 1, 1) := by decide +kernel
theorem dX0_take_65 : decode cX0_take 65 = .ok (.invokevirtual 66, 3) := by decide +kernel
theorem dX0_take_68 : decode cX0_take 68 = .ok (.iload_n 3, 1) := by decide +kernel
theorem dX0_take_69 : decode cX0_take 69 = .ok (.ireturn, 1) := by decide +kernel
theorem dX0_learnSinks_0 : decode cX0_learnSinks 0 = .ok (.iconst 0, 1) := by decide +kernel
theorem dX0_learnSinks_1 : decode cX0_learnSinks 1 = .ok (.istore_n 1, 1) := by decide +kernel
theorem dX0_learnSinks_2 : decode cX0_learnSinks 2 = .ok (.iload_n 1, 1) := by decide +kernel
theorem dX0_learnSinks_3 : decode cX0_learnSinks 3 = .ok (.bipush 6, 2) := by decide +kernel
theorem dX0_learnSinks_5 : decode cX0_learnSinks 5 = .ok (.if_icmp .ge 46, 3) := by decide +kernel
theorem dX0_learnSinks_8 : decode cX0_learnSinks 8 = .ok (.iconst 0, 1) := by decide +kernel
theorem dX0_learnSinks_9 : decode cX0_learnSinks 9 = .ok (.istore_n 2, 1) := by decide +kernel
theorem dX0_learnSinks_10 : decode cX0_learnSinks 10 = .ok (.iload_n 2, 1) := by decide +kernel
theorem dX0_learnSinks_11 : decode cX0_learnSinks 11 = .ok (.aload_n 0, 1) := by decide +kernel
theorem dX0_learnSinks_12 : decode cX0_learnSinks 12 = .ok (.getfield 51, 3) := by decide +kernel
theorem dX0_learnSinks_15 : decode cX0_learnSinks 15 = .ok (.if_icmp .ge 30, 3) := by decide +kernel
theorem dX0_learnSinks_18 : decode cX0_learnSinks 18 = .ok (.aload_n 0, 1) := by decide +kernel
theorem dX0_learnSinks_19 : decode cX0_learnSinks 19 = .ok (.getfield 45, 3) := by decide +kernel
theorem dX0_learnSinks_22 : decode cX0_learnSinks 22 = .ok (.iload_n 1, 1) := by decide +kernel
theorem dX0_learnSinks_23 : decode cX0_learnSinks 23 = .ok (.bipush 9, 2) := by decide +kernel
theorem dX0_learnSinks_25 : decode cX0_learnSinks 25 = .ok (.imul, 1) := by decide +kernel
theorem dX0_learnSinks_26 : decode cX0_learnSinks 26 = .ok (.iload_n 2, 1) := by decide +kernel
theorem dX0_learnSinks_27 : decode cX0_learnSinks 27 = .ok (.iadd, 1) := by decide +kernel
theorem dX0_learnSinks_28 : decode cX0_learnSinks 28 = .ok (.aload_n 0, 1) := by decide +kernel
theorem dX0_learnSinks_29 : decode cX0_learnSinks 29 = .ok (.getfield 11, 3) := by decide +kernel
theorem dX0_learnSinks_32 : decode cX0_learnSinks 32 = .ok (.iload_n 2, 1) := by decide +kernel
theorem dX0_learnSinks_33 : decode cX0_learnSinks 33 = .ok (.aaload, 1) := by decide +kernel
theorem dX0_learnSinks_34 : decode cX0_learnSinks 34 = .ok (.iload_n 1, 1) := by decide +kernel
theorem dX0_learnSinks_35 : decode cX0_learnSinks 35 = .ok (.invokevirtual 121, 3) := by decide +kernel
theorem dX0_learnSinks_38 : decode cX0_learnSinks 38 = .ok (.iastore, 1) := by decide +kernel
theorem dX0_learnSinks_39 : decode cX0_learnSinks 39 = .ok (.iinc 2 1, 3) := by decide +kernel
theorem dX0_learnSinks_42 : decode cX0_learnSinks 42 = .ok (.goto (-32), 3) := by decide +kernel
theorem dX0_learnSinks_45 : decode cX0_learnSinks 45 = .ok (.iinc 1 1, 3) := by decide +kernel
theorem dX0_learnSinks_48 : decode cX0_learnSinks 48 = .ok (.goto (-46), 3) := by decide +kernel
theorem dX0_learnSinks_51 : decode cX0_learnSinks 51 = .ok (.return_, 1) := by decide +kernel
theorem dX0_shake_0 : decode cX0_shake 0 = .ok (.iload_n 2, 1) := by decide +kernel
theorem dX0_shake_1 : decode cX0_shake 1 = .ok (.bipush 6, 2) := by decide +kernel
theorem dX0_shake_3 : decode cX0_shake 3 = .ok (.irem, 1) := by decide +kernel
theorem dX0_shake_4 : decode cX0_shake 4 = .ok (.bipush 9, 2) := by decide +kernel
theorem dX0_shake_6 : decode cX0_shake 6 = .ok (.imul, 1) := by decide +kernel
theorem dX0_shake_7 : decode cX0_shake 7 = .ok (.istore_n 3, 1) := by decide +kernel
theorem dX0_shake_8 : decode cX0_shake 8 = .ok (.iconst 0, 1) := by decide +kernel
theorem dX0_shake_9 : decode cX0_shake 9 = .ok (.istore 4, 2) := by decide +kernel
theorem dX0_shake_11 : decode cX0_shake 11 = .ok (.iconst 0, 1) := by decide +kernel
theorem dX0_shake_12 : decode cX0_shake 12 = .ok (.istore 5, 2) := by decide +kernel
theorem dX0_shake_14 : decode cX0_shake 14 = .ok (.iload 5, 2) := by decide +kernel
theorem dX0_shake_16 : decode cX0_shake 16 = .ok (.iconst 1, 1) := by decide +kernel
theorem dX0_shake_17 : decode cX0_shake 17 = .ok (.iadd, 1) := by decide +kernel
theorem dX0_shake_18 : decode cX0_shake 18 = .ok (.aload_n 1, 1) := by decide +kernel
theorem dX0_shake_19 : decode cX0_shake 19 = .ok (.getfield 76, 3) := by decide +kernel
theorem dX0_shake_22 : decode cX0_shake 22 = .ok (.if_icmp .ge 55, 3) := by decide +kernel
theorem dX0_shake_25 : decode cX0_shake 25 = .ok (.aload_n 0, 1) := by decide +kernel
theorem dX0_shake_26 : decode cX0_shake 26 = .ok (.getfield 45, 3) := by decide +kernel
theorem dX0_shake_29 : decode cX0_shake 29 = .ok (.iload_n 3, 1) := by decide +kernel
theorem dX0_shake_30 : decode cX0_shake 30 = .ok (.aload_n 1, 1) := by decide +kernel
theorem dX0_shake_31 : decode cX0_shake 31 = .ok (.getfield 79, 3) := by decide +kernel
theorem dX0_shake_34 : decode cX0_shake 34 = .ok (.iload 5, 2) := by decide +kernel
theorem dX0_shake_36 : decode cX0_shake 36 = .ok (.iaload, 1) := by decide +kernel
theorem dX0_shake_37 : decode cX0_shake 37 = .ok (.iadd, 1) := by decide +kernel
theorem dX0_shake_38 : decode cX0_shake 38 = .ok (.iaload, 1) := by decide +kernel
theorem dX0_shake_39 : decode cX0_shake 39 = .ok (.aload_n 0, 1) := by decide +kernel
theorem dX0_shake_40 : decode cX0_shake 40 = .ok (.getfield 45, 3) := by decide +kernel
theorem dX0_shake_43 : decode cX0_shake 43 = .ok (.iload_n 3, 1) := by decide +kernel
theorem dX0_shake_44 : decode cX0_shake 44 = .ok (.aload_n 1, 1) := by decide +kernel
theorem dX0_shake_45 : decode cX0_shake 45 = .ok (.getfield 79, 3) := by decide +kernel
theorem dX0_shake_48 : decode cX0_shake 48 = .ok (.iload 5, 2) := by decide +kernel
theorem dX0_shake_50 : decode cX0_shake 50 = .ok (.iconst 1, 1) := by decide +kernel
theorem dX0_shake_51 : decode cX0_shake 51 = .ok (.iadd, 1) := by decide +kernel
theorem dX0_shake_52 : decode cX0_shake 52 = .ok (.iaload, 1) := by decide +kernel
theorem dX0_shake_53 : decode cX0_shake 53 = .ok (.iadd, 1) := by decide +kernel
theorem dX0_shake_54 : decode cX0_shake 54 = .ok (.iaload, 1) := by decide +kernel
theorem dX0_shake_55 : decode cX0_shake 55 = .ok (.if_icmp .le 16, 3) := by decide +kernel
theorem dX0_shake_58 : decode cX0_shake 58 = .ok (.aload_n 1, 1) := by decide +kernel
theorem dX0_shake_59 : decode cX0_shake 59 = .ok (.iload 5, 2) := by decide +kernel
theorem dX0_shake_61 : decode cX0_shake 61 = .ok (.iload 5, 2) := by decide +kernel
theorem dX0_shake_63 : decode cX0_shake 63 = .ok (.iconst 1, 1) := by decide +kernel
theorem dX0_shake_64 : decode cX0_shake 64 = .ok (.iadd, 1) := by decide +kernel
theorem dX0_shake_65 : decode cX0_shake 65 = .ok (.invokevirtual 124, 3) := by decide +kernel
theorem dX0_shake_68 : decode cX0_shake 68 = .ok (.iconst 1, 1) := by decide +kernel
theorem dX0_shake_69 : decode cX0_shake 69 = .ok (.istore 4, 2) := by decide +kernel
theorem dX0_shake_71 : decode cX0_shake 71 = .ok (.iinc 5 1, 3) := by decide +kernel
theorem dX0_shake_74 : decode cX0_shake 74 = .ok (.goto (-60), 3) := by decide +kernel
theorem dX0_shake_77 : decode cX0_shake 77 = .ok (.iload 4, 2) := by decide +kernel
theorem dX0_shake_79 : decode cX0_shake 79 = .ok (.ireturn, 1) := by decide +kernel
theorem dX0_walk_0 : decode cX0_walk 0 = .ok (.aload_n 0, 1) := by decide +kernel
theorem dX0_walk_1 : decode cX0_walk 1 = .ok (.invokevirtual 128, 3) := by decide +kernel
theorem dX0_walk_4 : decode cX0_walk 4 = .ok (.iconst 0, 1) := by decide +kernel
theorem dX0_walk_5 : decode cX0_walk 5 = .ok (.istore_n 2, 1) := by decide +kernel
theorem dX0_walk_6 : decode cX0_walk 6 = .ok (.iload_n 2, 1) := by decide +kernel
theorem dX0_walk_7 : decode cX0_walk 7 = .ok (.iload_n 1, 1) := by decide +kernel
theorem dX0_walk_8 : decode cX0_walk 8 = .ok (.if_icmp .ge 32, 3) := by decide +kernel
theorem dX0_walk_11 : decode cX0_walk 11 = .ok (.aload_n 0, 1) := by decide +kernel
theorem dX0_walk_12 : decode cX0_walk 12 = .ok (.aload_n 0, 1) := by decide +kernel
theorem dX0_walk_13 : decode cX0_walk 13 = .ok (.getfield 22, 3) := by decide +kernel
theorem dX0_walk_16 : decode cX0_walk 16 = .ok (.aload_n 0, 1) := by decide +kernel
theorem dX0_walk_17 : decode cX0_walk 17 = .ok (.getfield 131, 3) := by decide +kernel
theorem dX0_walk_20 : decode cX0_walk 20 = .ok (.invokevirtual 134, 3) := by decide +kernel
theorem dX0_walk_23 : decode cX0_walk 23 = .ok (.pop, 1) := by decide +kernel
theorem dX0_walk_24 : decode cX0_walk 24 = .ok (.aload_n 0, 1) := by decide +kernel
theorem dX0_walk_25 : decode cX0_walk 25 = .ok (.dup, 1) := by decide +kernel
theorem dX0_walk_26 : decode cX0_walk 26 = .ok (.getfield 131, 3) := by decide +kernel
theorem dX0_walk_29 : decode cX0_walk 29 = .ok (.iconst 1, 1) := by decide +kernel
theorem dX0_walk_30 : decode cX0_walk 30 = .ok (.iadd, 1) := by decide +kernel
theorem dX0_walk_31 : decode cX0_walk 31 = .ok (.putfield 131, 3) := by decide +kernel
theorem dX0_walk_34 : decode cX0_walk 34 = .ok (.iinc 2 1, 3) := by decide +kernel
theorem dX0_walk_37 : decode cX0_walk 37 = .ok (.goto (-31), 3) := by decide +kernel
theorem dX0_walk_40 : decode cX0_walk 40 = .ok (.return_, 1) := by decide +kernel
theorem dX0_draw_0 : decode cX0_draw 0 = .ok (.aload_n 0, 1) := by decide +kernel
theorem dX0_draw_1 : decode cX0_draw 1 = .ok (.aload_n 0, 1) := by decide +kernel
theorem dX0_draw_2 : decode cX0_draw 2 = .ok (.getfield 30, 3) := by decide +kernel
theorem dX0_draw_5 : decode cX0_draw 5 = .ok (.ldc 138, 2) := by decide +kernel
theorem dX0_draw_7 : decode cX0_draw 7 = .ok (.imul, 1) := by decide +kernel
theorem dX0_draw_8 : decode cX0_draw 8 = .ok (.sipush 12345, 3) := by decide +kernel
theorem dX0_draw_11 : decode cX0_draw 11 = .ok (.iadd, 1) := by decide +kernel
theorem dX0_draw_12 : decode cX0_draw 12 = .ok (.putfield 30, 3) := by decide +kernel
theorem dX0_draw_15 : decode cX0_draw 15 = .ok (.aload_n 0, 1) := by decide +kernel
theorem dX0_draw_16 : decode cX0_draw 16 = .ok (.getfield 30, 3) := by decide +kernel
theorem dX0_draw_19 : decode cX0_draw 19 = .ok (.bipush 8, 2) := by decide +kernel
theorem dX0_draw_21 : decode cX0_draw 21 = .ok (.iushr, 1) := by decide +kernel
theorem dX0_draw_22 : decode cX0_draw 22 = .ok (.ireturn, 1) := by decide +kernel
theorem dX0_goByDraws_0 : decode cX0_goByDraws 0 = .ok (.aload_n 0, 1) := by decide +kernel
theorem dX0_goByDraws_1 : decode cX0_goByDraws 1 = .ok (.getfield 51, 3) := by decide +kernel
theorem dX0_goByDraws_4 : decode cX0_goByDraws 4 = .ok (.ifCond .le 34, 3) := by decide +kernel
theorem dX0_goByDraws_7 : decode cX0_goByDraws 7 = .ok (.aload_n 0, 1) := by decide +kernel
theorem dX0_goByDraws_8 : decode cX0_goByDraws 8 = .ok (.invokevirtual 139, 3) := by decide +kernel
theorem dX0_goByDraws_11 : decode cX0_goByDraws 11 = .ok (.aload_n 0, 1) := by decide +kernel
theorem dX0_goByDraws_12 : decode cX0_goByDraws 12 = .ok (.getfield 51, 3) := by decide +kernel
theorem dX0_goByDraws_15 : decode cX0_goByDraws 15 = .ok (.irem, 1) := by decide +kernel
theorem dX0_goByDraws_16 : decode cX0_goByDraws 16 = .ok (.istore_n 1, 1) := by decide +kernel
theorem dX0_goByDraws_17 : decode cX0_goByDraws 17 = .ok (.aload_n 0, 1) := by decide +kernel
theorem dX0_goByDraws_18 : decode cX0_goByDraws 18 = .ok (.iload_n 1, 1) := by decide +kernel
theorem dX0_goByDraws_19 : decode cX0_goByDraws 19 = .ok (.invokevirtual 142, 3) := by decide +kernel
theorem dX0_goByDraws_22 : decode cX0_goByDraws 22 = .ok (.bipush (-2), 2) := by decide +kernel
theorem dX0_goByDraws_24 : decode cX0_goByDraws 24 = .ok (.if_icmp .eq 14, 3) := by decide +kernel
theorem dX0_goByDraws_27 : decode cX0_goByDraws 27 = .ok (.aload_n 0, 1) := by decide +kernel
theorem dX0_goByDraws_28 : decode cX0_goByDraws 28 = .ok (.iload_n 1, 1) := by decide +kernel
theorem dX0_goByDraws_29 : decode cX0_goByDraws 29 = .ok (.aload_n 0, 1) := by decide +kernel
theorem dX0_goByDraws_30 : decode cX0_goByDraws 30 = .ok (.iload_n 1, 1) := by decide +kernel
theorem dX0_goByDraws_31 : decode cX0_goByDraws 31 = .ok (.invokevirtual 145, 3) := by decide +kernel
theorem dX0_goByDraws_34 : decode cX0_goByDraws 34 = .ok (.invokevirtual 148, 3) := by decide +kernel
theorem dX0_goByDraws_37 : decode cX0_goByDraws 37 = .ok (.pop, 1) := by decide +kernel
theorem dX0_goByDraws_38 : decode cX0_goByDraws 38 = .ok (.aload_n 0, 1) := by decide +kernel
theorem dX0_goByDraws_39 : decode cX0_goByDraws 39 = .ok (.aload_n 0, 1) := by decide +kernel
theorem dX0_goByDraws_40 : decode cX0_goByDraws 40 = .ok (.invokevirtual 139, 3) := by decide +kernel
theorem dX0_goByDraws_43 : decode cX0_goByDraws 43 = .ok (.iconst 3, 1) := by decide +kernel
theorem dX0_goByDraws_44 : decode cX0_goByDraws 44 = .ok (.irem, 1) := by decide +kernel
theorem dX0_goByDraws_45 : decode cX0_goByDraws 45 = .ok (.iconst 1, 1) := by decide +kernel
theorem dX0_goByDraws_46 : decode cX0_goByDraws 46 = .ok (.iadd, 1) := by decide +kernel
theorem dX0_goByDraws_47 : decode cX0_goByDraws 47 = .ok (.invokevirtual 151, 3) := by decide +kernel
theorem dX0_goByDraws_50 : decode cX0_goByDraws 50 = .ok (.return_, 1) := by decide +kernel
theorem dX0_copy_0 : decode cX0_copy 0 = .ok (.iconst 0, 1) := by decide +kernel
theorem dX0_copy_1 : decode cX0_copy 1 = .ok (.istore_n 2, 1) := by decide +kernel
theorem dX0_copy_2 : decode cX0_copy 2 = .ok (.iload_n 2, 1) := by decide +kernel
theorem dX0_copy_3 : decode cX0_copy 3 = .ok (.bipush 9, 2) := by decide +kernel
theorem dX0_copy_5 : decode cX0_copy 5 = .ok (.if_icmp .ge 24, 3) := by decide +kernel
theorem dX0_copy_8 : decode cX0_copy 8 = .ok (.aload_n 0, 1) := by decide +kernel
theorem dX0_copy_9 : decode cX0_copy 9 = .ok (.getfield 11, 3) := by decide +kernel
theorem dX0_copy_12 : decode cX0_copy 12 = .ok (.iload_n 2, 1) := by decide +kernel
theorem dX0_copy_13 : decode cX0_copy 13 = .ok (.aaload, 1) := by decide +kernel
theorem dX0_copy_14 : decode cX0_copy 14 = .ok (.aload_n 1, 1) := by decide +kernel
theorem dX0_copy_15 : decode cX0_copy 15 = .ok (.getfield 11, 3) := by decide +kernel
theorem dX0_copy_18 : decode cX0_copy 18 = .ok (.iload_n 2, 1) := by decide +kernel
theorem dX0_copy_19 : decode cX0_copy 19 = .ok (.aaload, 1) := by decide +kernel
theorem dX0_copy_20 : decode cX0_copy 20 = .ok (.invokevirtual 154, 3) := by decide +kernel
theorem dX0_copy_23 : decode cX0_copy 23 = .ok (.iinc 2 1, 3) := by decide +kernel
theorem dX0_copy_26 : decode cX0_copy 26 = .ok (.goto (-24), 3) := by decide +kernel
theorem dX0_copy_29 : decode cX0_copy 29 = .ok (.aload_n 0, 1) := by decide +kernel
theorem dX0_copy_30 : decode cX0_copy 30 = .ok (.aload_n 1, 1) := by decide +kernel
theorem dX0_copy_31 : decode cX0_copy 31 = .ok (.getfield 51, 3) := by decide +kernel
theorem dX0_copy_34 : decode cX0_copy 34 = .ok (.putfield 51, 3) := by decide +kernel
theorem dX0_copy_37 : decode cX0_copy 37 = .ok (.aload_n 0, 1) := by decide +kernel
theorem dX0_copy_38 : decode cX0_copy 38 = .ok (.getfield 22, 3) := by decide +kernel
theorem dX0_copy_41 : decode cX0_copy 41 = .ok (.aload_n 1, 1) := by decide +kernel
theorem dX0_copy_42 : decode cX0_copy 42 = .ok (.getfield 22, 3) := by decide +kernel
theorem dX0_copy_45 : decode cX0_copy 45 = .ok (.invokevirtual 158, 3) := by decide +kernel
theorem dX0_copy_48 : decode cX0_copy 48 = .ok (.aload_n 0, 1) := by decide +kernel
theorem dX0_copy_49 : decode cX0_copy 49 = .ok (.aload_n 1, 1) := by decide +kernel
theorem dX0_copy_50 : decode cX0_copy 50 = .ok (.getfield 26, 3) := by decide +kernel
theorem dX0_copy_53 : decode cX0_copy 53 = .ok (.putfield 26, 3) := by decide +kernel
theorem dX0_copy_56 : decode cX0_copy 56 = .ok (.aload_n 0, 1) := by decide +kernel
theorem dX0_copy_57 : decode cX0_copy 57 = .ok (.aload_n 1, 1) := by decide +kernel
theorem dX0_copy_58 : decode cX0_copy 58 = .ok (.getfield 131, 3) := by decide +kernel
theorem dX0_copy_61 : decode cX0_copy 61 = .ok (.putfield 131, 3) := by decide +kernel
theorem dX0_copy_64 : decode cX0_copy 64 = .ok (.aload_n 0, 1) := by decide +kernel
theorem dX0_copy_65 : decode cX0_copy 65 = .ok (.aload_n 1, 1) := by decide +kernel
theorem dX0_copy_66 : decode cX0_copy 66 = .ok (.getfield 115, 3) := by decide +kernel
theorem dX0_copy_69 : decode cX0_copy 69 = .ok (.putfield 115, 3) := by decide +kernel
theorem dX0_copy_72 : decode cX0_copy 72 = .ok (.aload_n 0, 1) := by decide +kernel
theorem dX0_copy_73 : decode cX0_copy 73 = .ok (.aload_n 1, 1) := by decide +kernel
theorem dX0_copy_74 : decode cX0_copy 74 = .ok (.getfield 30, 3) := by decide +kernel
theorem dX0_copy_77 : decode cX0_copy 77 = .ok (.putfield 30, 3) := by decide +kernel
theorem dX0_copy_80 : decode cX0_copy 80 = .ok (.aload_n 0, 1) := by decide +kernel
theorem dX0_copy_81 : decode cX0_copy 81 = .ok (.getfield 33, 3) := by decide +kernel
theorem dX0_copy_84 : decode cX0_copy 84 = .ok (.aload_n 1, 1) := by decide +kernel
theorem dX0_copy_85 : decode cX0_copy 85 = .ok (.getfield 33, 3) := by decide +kernel
theorem dX0_copy_88 : decode cX0_copy 88 = .ok (.invokevirtual 158, 3) := by decide +kernel
theorem dX0_copy_91 : decode cX0_copy 91 = .ok (.iconst 0, 1) := by decide +kernel
theorem dX0_copy_92 : decode cX0_copy 92 = .ok (.istore_n 2, 1) := by decide +kernel
theorem dX0_copy_93 : decode cX0_copy 93 = .ok (.iload_n 2, 1) := by decide +kernel
theorem dX0_copy_94 : decode cX0_copy 94 = .ok (.iconst 2, 1) := by decide +kernel
theorem dX0_copy_95 : decode cX0_copy 95 = .ok (.if_icmp .ge 24, 3) := by decide +kernel
theorem dX0_copy_98 : decode cX0_copy 98 = .ok (.aload_n 0, 1) := by decide +kernel
theorem dX0_copy_99 : decode cX0_copy 99 = .ok (.getfield 38, 3) := by decide +kernel
theorem dX0_copy_102 : decode cX0_copy 102 = .ok (.iload_n 2, 1) := by decide +kernel
theorem dX0_copy_103 : decode cX0_copy 103 = .ok (.aaload, 1) := by decide +kernel
theorem dX0_copy_104 : decode cX0_copy 104 = .ok (.aload_n 1, 1) := by decide +kernel
theorem dX0_copy_105 : decode cX0_copy 105 = .ok (.getfield 38, 3) := by decide +kernel
theorem dX0_copy_108 : decode cX0_copy 108 = .ok (.iload_n 2, 1) := by decide +kernel
theorem dX0_copy_109 : decode cX0_copy 109 = .ok (.aaload, 1) := by decide +kernel
theorem dX0_copy_110 : decode cX0_copy 110 = .ok (.invokevirtual 161, 3) := by decide +kernel
theorem dX0_copy_113 : decode cX0_copy 113 = .ok (.iinc 2 1, 3) := by decide +kernel
theorem dX0_copy_116 : decode cX0_copy 116 = .ok (.goto (-23), 3) := by decide +kernel
theorem dX0_copy_119 : decode cX0_copy 119 = .ok (.aload_n 0, 1) := by decide +kernel
theorem dX0_copy_120 : decode cX0_copy 120 = .ok (.getfield 42, 3) := by decide +kernel
theorem dX0_copy_123 : decode cX0_copy 123 = .ok (.aload_n 1, 1) := by decide +kernel
theorem dX0_copy_124 : decode cX0_copy 124 = .ok (.getfield 42, 3) := by decide +kernel
theorem dX0_copy_127 : decode cX0_copy 127 = .ok (.invokevirtual 158, 3) := by decide +kernel
theorem dX0_copy_130 : decode cX0_copy 130 = .ok (.return_, 1) := by decide +kernel
theorem dX1_init_0 : decode cX1_init 0 = .ok (.aload_n 0, 1) := by decide +kernel
theorem dX1_init_1 : decode cX1_init 1 = .ok (.invokespecial 3, 3) := by decide +kernel
theorem dX1_init_4 : decode cX1_init 4 = .ok (.aload_n 0, 1) := by decide +kernel
theorem dX1_init_5 : decode cX1_init 5 = .ok (.iconst 0, 1) := by decide +kernel
theorem dX1_init_6 : decode cX1_init 6 = .ok (.iload_n 1, 1) := by decide +kernel
theorem dX1_init_7 : decode cX1_init 7 = .ok (.invokestatic 9, 3) := by decide +kernel
theorem dX1_init_10 : decode cX1_init 10 = .ok (.newarray .int, 2) := by decide +kernel
theorem dX1_init_12 : decode cX1_init 12 = .ok (.putfield 15, 3) := by decide +kernel
theorem dX1_init_15 : decode cX1_init 15 = .ok (.return_, 1) := by decide +kernel
theorem dX1_has_0 : decode cX1_has 0 = .ok (.iload_n 1, 1) := by decide +kernel
theorem dX1_has_1 : decode cX1_has 1 = .ok (.ifCond .lt 15, 3) := by decide +kernel
theorem dX1_has_4 : decode cX1_has 4 = .ok (.iload_n 1, 1) := by decide +kernel
theorem dX1_has_5 : decode cX1_has 5 = .ok (.aload_n 0, 1) := by decide +kernel
theorem dX1_has_6 : decode cX1_has 6 = .ok (.getfield 21, 3) := by decide +kernel
theorem dX1_has_9 : decode cX1_has 9 = .ok (.if_icmp .ge 7, 3) := by decide +kernel
theorem dX1_has_12 : decode cX1_has 12 = .ok (.iconst 1, 1) := by decide +kernel
theorem dX1_has_13 : decode cX1_has 13 = .ok (.goto 4, 3) := by decide +kernel
theorem dX1_has_16 : decode cX1_has 16 = .ok (.iconst 0, 1) := by decide +kernel
theorem dX1_has_17 : decode cX1_has 17 = .ok (.ireturn, 1) := by decide +kernel
theorem dX1_hasRun_0 : decode cX1_hasRun 0 = .ok (.iload_n 1, 1) := by decide +kernel
theorem dX1_hasRun_1 : decode cX1_hasRun 1 = .ok (.ifCond .lt 29, 3) := by decide +kernel
theorem dX1_hasRun_4 : decode cX1_hasRun 4 = .ok (.iload_n 2, 1) := by decide +kernel
theorem dX1_hasRun_5 : decode cX1_hasRun 5 = .ok (.ifCond .lt 25, 3) := by decide +kernel
theorem dX1_hasRun_8 : decode cX1_hasRun 8 = .ok (.iload_n 1, 1) := by decide +kernel
theorem dX1_hasRun_9 : decode cX1_hasRun 9 = .ok (.aload_n 0, 1) := by decide +kernel
theorem dX1_hasRun_10 : decode cX1_hasRun 10 = .ok (.getfield 21, 3) := by decide +kernel
theorem dX1_hasRun_13 : decode cX1_hasRun 13 = .ok (.if_icmp .gt 17, 3) := by decide +kernel
theorem dX1_hasRun_16 : decode cX1_hasRun 16 = .ok (.iload_n 2, 1) := by decide +kernel
theorem dX1_hasRun_17 : decode cX1_hasRun 17 = .ok (.aload_n 0, 1) := by decide +kernel
theorem dX1_hasRun_18 : decode cX1_hasRun 18 = .ok (.getfield 21, 3) := by decide +kernel
theorem dX1_hasRun_21 : decode cX1_hasRun 21 = .ok (.iload_n 1, 1) := by decide +kernel
theorem dX1_hasRun_22 : decode cX1_hasRun 22 = .ok (.isub, 1) := by decide +kernel
theorem dX1_hasRun_23 : decode cX1_hasRun 23 = .ok (.if_icmp .gt 7, 3) := by decide +kernel
theorem dX1_hasRun_26 : decode cX1_hasRun 26 = .ok (.iconst 1, 1) := by decide +kernel
theorem dX1_hasRun_27 : decode cX1_hasRun 27 = .ok (.goto 4, 3) := by decide +kernel
theorem dX1_hasRun_30 : decode cX1_hasRun 30 = .ok (.iconst 0, 1) := by decide +kernel
theorem dX1_hasRun_31 : decode cX1_hasRun 31 = .ok (.ireturn, 1) := by decide +kernel
theorem dX1_placeOf_0 : decode cX1_placeOf 0 = .ok (.iconst 0, 1) := by decide +kernel
theorem dX1_placeOf_1 : decode cX1_placeOf 1 = .ok (.istore_n 2, 1) := by decide +kernel
theorem dX1_placeOf_2 : decode cX1_placeOf 2 = .ok (.iload_n 2, 1) := by decide +kernel
theorem dX1_placeOf_3 : decode cX1_placeOf 3 = .ok (.aload_n 0, 1) := by decide +kernel
theorem dX1_placeOf_4 : decode cX1_placeOf 4 = .ok (.getfield 21, 3) := by decide +kernel
theorem dX1_placeOf_7 : decode cX1_placeOf 7 = .ok (.if_icmp .ge 21, 3) := by decide +kernel
theorem dX1_placeOf_10 : decode cX1_placeOf 10 = .ok (.aload_n 0, 1) := by decide +kernel
theorem dX1_placeOf_11 : decode cX1_placeOf 11 = .ok (.getfield 15, 3) := by decide +kernel
theorem dX1_placeOf_14 : decode cX1_placeOf 14 = .ok (.iload_n 2, 1) := by decide +kernel
theorem dX1_placeOf_15 : decode cX1_placeOf 15 = .ok (.iaload, 1) := by decide +kernel
theorem dX1_placeOf_16 : decode cX1_placeOf 16 = .ok (.iload_n 1, 1) := by decide +kernel
theorem dX1_placeOf_17 : decode cX1_placeOf 17 = .ok (.if_icmp .ne 5, 3) := by decide +kernel
theorem dX1_placeOf_20 : decode cX1_placeOf 20 = .ok (.iload_n 2, 1) := by decide +kernel
theorem dX1_placeOf_21 : decode cX1_placeOf 21 = .ok (.ireturn, 1) := by decide +kernel
theorem dX1_placeOf_22 : decode cX1_placeOf 22 = .ok (.iinc 2 1, 3) := by decide +kernel
theorem dX1_placeOf_25 : decode cX1_placeOf 25 = .ok (.goto (-23), 3) := by decide +kernel
theorem dX1_placeOf_28 : decode cX1_placeOf 28 = .ok (.iconst (-1), 1) := by decide +kernel
theorem dX1_placeOf_29 : decode cX1_placeOf 29 = .ok (.ireturn, 1) := by decide +kernel
theorem dX1_add_0 : decode cX1_add 0 = .ok (.aload_n 0, 1) := by decide +kernel
theorem dX1_add_1 : decode cX1_add 1 = .ok (.getfield 21, 3) := by decide +kernel
theorem dX1_add_4 : decode cX1_add 4 = .ok (.aload_n 0, 1) := by decide +kernel
theorem dX1_add_5 : decode cX1_add 5 = .ok (.getfield 15, 3) := by decide +kernel
theorem dX1_add_8 : decode cX1_add 8 = .ok (.arraylength, 1) := by decide +kernel
theorem dX1_add_9 : decode cX1_add 9 = .ok (.if_icmp .ge 23, 3) := by decide +kernel
theorem dX1_add_12 : decode cX1_add 12 = .ok (.aload_n 0, 1) := by decide +kernel
theorem dX1_add_13 : decode cX1_add 13 = .ok (.getfield 15, 3) := by decide +kernel
theorem dX1_add_16 : decode cX1_add 16 = .ok (.aload_n 0, 1) := by decide +kernel
theorem dX1_add_17 : decode cX1_add 17 = .ok (.getfield 21, 3) := by decide +kernel
theorem dX1_add_20 : decode cX1_add 20 = .ok (.iload_n 1, 1) := by decide +kernel
theorem dX1_add_21 : decode cX1_add 21 = .ok (.iastore, 1) := by decide +kernel
theorem dX1_add_22 : decode cX1_add 22 = .ok (.aload_n 0, 1) := by decide +kernel
theorem dX1_add_23 : decode cX1_add 23 = .ok (.dup, 1) := by decide +kernel
theorem dX1_add_24 : decode cX1_add 24 = .ok (.getfield 21, 3) := by decide +kernel
theorem dX1_add_27 : decode cX1_add 27 = .ok (.iconst 1, 1) := by decide +kernel
theorem dX1_add_28 : decode cX1_add 28 = .ok (.iadd, 1) := by decide +kernel
theorem dX1_add_29 : decode cX1_add 29 = .ok (.putfield 21, 3) := by decide +kernel
theorem dX1_add_32 : decode cX1_add 32 = .ok (.return_, 1) := by decide +kernel
theorem dX1_addOnTop_0 : decode cX1_addOnTop 0 = .ok (.aload_n 0, 1) := by decide +kernel
theorem dX1_addOnTop_1 : decode cX1_addOnTop 1 = .ok (.getfield 21, 3) := by decide +kernel
theorem dX1_addOnTop_4 : decode cX1_addOnTop 4 = .ok (.aload_n 0, 1) := by decide +kernel
theorem dX1_addOnTop_5 : decode cX1_addOnTop 5 = .ok (.getfield 15, 3) := by decide +kernel
theorem dX1_addOnTop_8 : decode cX1_addOnTop 8 = .ok (.arraylength, 1) := by decide +kernel
theorem dX1_addOnTop_9 : decode cX1_addOnTop 9 = .ok (.if_icmp .ge 37, 3) := by decide +kernel
theorem dX1_addOnTop_12 : decode cX1_addOnTop 12 = .ok (.aload_n 0, 1) := by decide +kernel
theorem dX1_addOnTop_13 : decode cX1_addOnTop 13 = .ok (.getfield 15, 3) := by decide +kernel
theorem dX1_addOnTop_16 : decode cX1_addOnTop 16 = .ok (.iconst 0, 1) := by decide +kernel
theorem dX1_addOnTop_17 : decode cX1_addOnTop 17 = .ok (.aload_n 0, 1) := by decide +kernel
theorem dX1_addOnTop_18 : decode cX1_addOnTop 18 = .ok (.getfield 15, 3) := by decide +kernel
theorem dX1_addOnTop_21 : decode cX1_addOnTop 21 = .ok (.iconst 1, 1) := by decide +kernel
theorem dX1_addOnTop_22 : decode cX1_addOnTop 22 = .ok (.aload_n 0, 1) := by decide +kernel
theorem dX1_addOnTop_23 : decode cX1_addOnTop 23 = .ok (.getfield 21, 3) := by decide +kernel
theorem dX1_addOnTop_26 : decode cX1_addOnTop 26 = .ok (.invokestatic 25, 3) := by decide +kernel
theorem dX1_addOnTop_29 : decode cX1_addOnTop 29 = .ok (.aload_n 0, 1) := by decide +kernel
theorem dX1_addOnTop_30 : decode cX1_addOnTop 30 = .ok (.getfield 15, 3) := by decide +kernel
theorem dX1_addOnTop_33 : decode cX1_addOnTop 33 = .ok (.iconst 0, 1) := by decide +kernel
theorem dX1_addOnTop_34 : decode cX1_addOnTop 34 = .ok (.iload_n 1, 1) := by decide +kernel
theorem dX1_addOnTop_35 : decode cX1_addOnTop 35 = .ok (.iastore, 1) := by decide +kernel
theorem dX1_addOnTop_36 : decode cX1_addOnTop 36 = .ok (.aload_n 0, 1) := by decide +kernel
theorem dX1_addOnTop_37 : decode cX1_addOnTop 37 = .ok (.dup, 1) := by decide +kernel
theorem dX1_addOnTop_38 : decode cX1_addOnTop 38 = .ok (.getfield 21, 3) := by decide +kernel
theorem dX1_addOnTop_41 : decode cX1_addOnTop 41 = .ok (.iconst 1, 1) := by decide +kernel
theorem dX1_addOnTop_42 : decode cX1_addOnTop 42 = .ok (.iadd, 1) := by decide +kernel
theorem dX1_addOnTop_43 : decode cX1_addOnTop 43 = .ok (.putfield 21, 3) := by decide +kernel
theorem dX1_addOnTop_46 : decode cX1_addOnTop 46 = .ok (.return_, 1) := by decide +kernel
theorem dX1_removeAt_0 : decode cX1_removeAt 0 = .ok (.aload_n 0, 1) := by decide +kernel
theorem dX1_removeAt_1 : decode cX1_removeAt 1 = .ok (.iload_n 1, 1) := by decide +kernel
theorem dX1_removeAt_2 : decode cX1_removeAt 2 = .ok (.invokevirtual 31, 3) := by decide +kernel
theorem dX1_removeAt_5 : decode cX1_removeAt 5 = .ok (.ifCond .eq 36, 3) := by decide +kernel
theorem dX1_removeAt_8 : decode cX1_removeAt 8 = .ok (.aload_n 0, 1) := by decide +kernel
theorem dX1_removeAt_9 : decode cX1_removeAt 9 = .ok (.getfield 15, 3) := by decide +kernel
theorem dX1_removeAt_12 : decode cX1_removeAt 12 = .ok (.iload_n 1, 1) := by decide +kernel
theorem dX1_removeAt_13 : decode cX1_removeAt 13 = .ok (.iconst 1, 1) := by decide +kernel
theorem dX1_removeAt_14 : decode cX1_removeAt 14 = .ok (.iadd, 1) := by decide +kernel
theorem dX1_removeAt_15 : decode cX1_removeAt 15 = .ok (.aload_n 0, 1) := by decide +kernel
theorem dX1_removeAt_16 : decode cX1_removeAt 16 = .ok (.getfield 15, 3) := by decide +kernel
theorem dX1_removeAt_19 : decode cX1_removeAt 19 = .ok (.iload_n 1, 1) := by decide +kernel
theorem dX1_removeAt_20 : decode cX1_removeAt 20 = .ok (.aload_n 0, 1) := by decide +kernel
theorem dX1_removeAt_21 : decode cX1_removeAt 21 = .ok (.getfield 21, 3) := by decide +kernel
theorem dX1_removeAt_24 : decode cX1_removeAt 24 = .ok (.iload_n 1, 1) := by decide +kernel
theorem dX1_removeAt_25 : decode cX1_removeAt 25 = .ok (.isub, 1) := by decide +kernel
theorem dX1_removeAt_26 : decode cX1_removeAt 26 = .ok (.iconst 1, 1) := by decide +kernel
theorem dX1_removeAt_27 : decode cX1_removeAt 27 = .ok (.isub, 1) := by decide +kernel
theorem dX1_removeAt_28 : decode cX1_removeAt 28 = .ok (.invokestatic 25, 3) := by decide +kernel
theorem dX1_removeAt_31 : decode cX1_removeAt 31 = .ok (.aload_n 0, 1) := by decide +kernel
theorem dX1_removeAt_32 : decode cX1_removeAt 32 = .ok (.dup, 1) := by decide +kernel
theorem dX1_removeAt_33 : decode cX1_removeAt 33 = .ok (.getfield 21, 3) := by decide +kernel
theorem dX1_removeAt_36 : decode cX1_removeAt 36 = .ok (.iconst 1, 1) := by decide +kernel
theorem dX1_removeAt_37 : decode cX1_removeAt 37 = .ok (.isub, 1) := by decide +kernel
theorem dX1_removeAt_38 : decode cX1_removeAt 38 = .ok (.putfield 21, 3) := by decide +kernel
theorem dX1_removeAt_41 : decode cX1_removeAt 41 = .ok (.return_, 1) := by decide +kernel
theorem dX1_exchange_0 : decode cX1_exchange 0 = .ok (.aload_n 0, 1) := by decide +kernel
theorem dX1_exchange_1 : decode cX1_exchange 1 = .ok (.iload_n 1, 1) := by decide +kernel
theorem dX1_exchange_2 : decode cX1_exchange 2 = .ok (.invokevirtual 31, 3) := by decide +kernel
theorem dX1_exchange_5 : decode cX1_exchange 5 = .ok (.ifCond .eq 37, 3) := by decide +kernel
theorem dX1_exchange_8 : decode cX1_exchange 8 = .ok (.aload_n 0, 1) := by decide +kernel
theorem dX1_exchange_9 : decode cX1_exchange 9 = .ok (.iload_n 2, 1) := by decide +kernel
theorem dX1_exchange_10 : decode cX1_exchange 10 = .ok (.invokevirtual 31, 3) := by decide +kernel
theorem dX1_exchange_13 : decode cX1_exchange 13 = .ok (.ifCond .eq 29, 3) := by decide +kernel
theorem dX1_exchange_16 : decode cX1_exchange 16 = .ok (.aload_n 0, 1) := by decide +kernel
theorem dX1_exchange_17 : decode cX1_exchange 17 = .ok (.getfield 15, 3) := by decide +kernel
theorem dX1_exchange_20 : decode cX1_exchange 20 = .ok (.iload_n 1, 1) := by decide +kernel
theorem dX1_exchange_21 : decode cX1_exchange 21 = .ok (.iaload, 1) := by decide +kernel
theorem dX1_exchange_22 : decode cX1_exchange 22 = .ok (.istore_n 3, 1) := by decide +kernel
theorem dX1_exchange_23 : decode cX1_exchange 23 = .ok (.aload_n 0, 1) := by decide +kernel
theorem dX1_exchange_24 : decode cX1_exchange 24 = .ok (.getfield 15, 3) := by decide +kernel
theorem dX1_exchange_27 : decode cX1_exchange 27 = .ok (.iload_n 1, 1) := by decide +kernel
theorem dX1_exchange_28 : decode cX1_exchange 28 = .ok (.aload_n 0, 1) := by decide +kernel
theorem dX1_exchange_29 : decode cX1_exchange 29 = .ok (.getfield 15, 3) := by decide +kernel
theorem dX1_exchange_32 : decode cX1_exchange 32 = .ok (.iload_n 2, 1) := by decide +kernel
theorem dX1_exchange_33 : decode cX1_exchange 33 = .ok (.iaload, 1) := by decide +kernel
theorem dX1_exchange_34 : decode cX1_exchange 34 = .ok (.iastore, 1) := by decide +kernel
theorem dX1_exchange_35 : decode cX1_exchange 35 = .ok (.aload_n 0, 1) := by decide +kernel
theorem dX1_exchange_36 : decode cX1_exchange 36 = .ok (.getfield 15, 3) := by decide +kernel
theorem dX1_exchange_39 : decode cX1_exchange 39 = .ok (.iload_n 2, 1) := by decide +kernel
theorem dX1_exchange_40 : decode cX1_exchange 40 = .ok (.iload_n 3, 1) := by decide +kernel
theorem dX1_exchange_41 : decode cX1_exchange 41 = .ok (.iastore, 1) := by decide +kernel
theorem dX1_exchange_42 : decode cX1_exchange 42 = .ok (.return_, 1) := by decide +kernel
theorem dX1_turnOverFrom_0 : decode cX1_turnOverFrom 0 = .ok (.iload_n 1, 1) := by decide +kernel
theorem dX1_turnOverFrom_1 : decode cX1_turnOverFrom 1 = .ok (.istore_n 2, 1) := by decide +kernel
theorem dX1_turnOverFrom_2 : decode cX1_turnOverFrom 2 = .ok (.aload_n 0, 1) := by decide +kernel
theorem dX1_turnOverFrom_3 : decode cX1_turnOverFrom 3 = .ok (.getfield 21, 3) := by decide +kernel
theorem dX1_turnOverFrom_6 : decode cX1_turnOverFrom 6 = .ok (.iconst 1, 1) := by decide +kernel
theorem dX1_turnOverFrom_7 : decode cX1_turnOverFrom 7 = .ok (.isub, 1) := by decide +kernel
theorem dX1_turnOverFrom_8 : decode cX1_turnOverFrom 8 = .ok (.istore_n 3, 1) := by decide +kernel
theorem dX1_turnOverFrom_9 : decode cX1_turnOverFrom 9 = .ok (.iload_n 2, 1) := by decide +kernel
theorem dX1_turnOverFrom_10 : decode cX1_turnOverFrom 10 = .ok (.iload_n 3, 1) := by decide +kernel
theorem dX1_turnOverFrom_11 : decode cX1_turnOverFrom 11 = .ok (.if_icmp .ge 18, 3) := by decide +kernel
theorem dX1_turnOverFrom_14 : decode cX1_turnOverFrom 14 = .ok (.aload_n 0, 1) := by decide +kernel
theorem dX1_turnOverFrom_15 : decode cX1_turnOverFrom 15 = .ok (.iload_n 2, 1) := by decide +kernel
theorem dX1_turnOverFrom_16 : decode cX1_turnOverFrom 16 = .ok (.iload_n 3, 1) := by decide +kernel
theorem dX1_turnOverFrom_17 : decode cX1_turnOverFrom 17 = .ok (.invokevirtual 35, 3) := by decide +kernel
theorem dX1_turnOverFrom_20 : decode cX1_turnOverFrom 20 = .ok (.iinc 2 1, 3) := by decide +kernel
theorem dX1_turnOverFrom_23 : decode cX1_turnOverFrom 23 = .ok (.iinc 3 (-1), 3) := by decide +kernel
theorem dX1_turnOverFrom_26 : decode cX1_turnOverFrom 26 = .ok (.goto (-17), 3) := by decide +kernel
theorem dX1_turnOverFrom_29 : decode cX1_turnOverFrom 29 = .ok (.return_, 1) := by decide +kernel
theorem dX1_goToNext_0 : decode cX1_goToNext 0 = .ok (.aload_n 0, 1) := by decide +kernel
theorem dX1_goToNext_1 : decode cX1_goToNext 1 = .ok (.getfield 21, 3) := by decide +kernel
theorem dX1_goToNext_4 : decode cX1_goToNext 4 = .ok (.iconst 2, 1) := by decide +kernel
theorem dX1_goToNext_5 : decode cX1_goToNext 5 = .ok (.isub, 1) := by decide +kernel
theorem dX1_goToNext_6 : decode cX1_goToNext 6 = .ok (.istore_n 1, 1) := by decide +kernel
theorem dX1_goToNext_7 : decode cX1_goToNext 7 = .ok (.iload_n 1, 1) := by decide +kernel
theorem dX1_goToNext_8 : decode cX1_goToNext 8 = .ok (.ifCond .lt 26, 3) := by decide +kernel
theorem dX1_goToNext_11 : decode cX1_goToNext 11 = .ok (.aload_n 0, 1) := by decide +kernel
theorem dX1_goToNext_12 : decode cX1_goToNext 12 = .ok (.getfield 15, 3) := by decide +kernel
theorem dX1_goToNext_15 : decode cX1_goToNext 15 = .ok (.iload_n 1, 1) := by decide +kernel
theorem dX1_goToNext_16 : decode cX1_goToNext 16 = .ok (.iaload, 1) := by decide +kernel
theorem dX1_goToNext_17 : decode cX1_goToNext 17 = .ok (.aload_n 0, 1) := by decide +kernel
theorem dX1_goToNext_18 : decode cX1_goToNext 18 = .ok (.getfield 15, 3) := by decide +kernel
theorem dX1_goToNext_21 : decode cX1_goToNext 21 = .ok (.iload_n 1, 1) := by decide +kernel
theorem dX1_goToNext_22 : decode cX1_goToNext 22 = .ok (.iconst 1, 1) := by decide +kernel
theorem dX1_goToNext_23 : decode cX1_goToNext 23 = .ok (.iadd, 1) := by decide +kernel
theorem dX1_goToNext_24 : decode cX1_goToNext 24 = .ok (.iaload, 1) := by decide +kernel
theorem dX1_goToNext_25 : decode cX1_goToNext 25 = .ok (.if_icmp .lt 9, 3) := by decide +kernel
theorem dX1_goToNext_28 : decode cX1_goToNext 28 = .ok (.iinc 1 (-1), 3) := by decide +kernel
theorem dX1_goToNext_31 : decode cX1_goToNext 31 = .ok (.goto (-24), 3) := by decide +kernel
theorem dX1_goToNext_34 : decode cX1_goToNext 34 = .ok (.iload_n 1, 1) := by decide +kernel
theorem dX1_goToNext_35 : decode cX1_goToNext 35 = .ok (.ifCond .ge 5, 3) := by decide +kernel
theorem dX1_goToNext_38 : decode cX1_goToNext 38 = .ok (.iconst 0, 1) := by decide +kernel
theorem dX1_goToNext_39 : decode cX1_goToNext 39 = .ok (.ireturn, 1) := by decide +kernel
theorem dX1_goToNext_40 : decode cX1_goToNext 40 = .ok (.aload_n 0, 1) := by decide +kernel
theorem dX1_goToNext_41 : decode cX1_goToNext 41 = .ok (.getfield 21, 3) := by decide +kernel
theorem dX1_goToNext_44 : decode cX1_goToNext 44 = .ok (.iconst 1, 1) := by decide +kernel
theorem dX1_goToNext_45 : decode cX1_goToNext 45 = .ok (.isub, 1) := by decide +kernel
theorem dX1_goToNext_46 : decode cX1_goToNext 46 = .ok (.istore_n 2, 1) := by decide +kernel
theorem dX1_goToNext_47 : decode cX1_goToNext 47 = .ok (.iload_n 2, 1) := by decide +kernel
theorem dX1_goToNext_48 : decode cX1_goToNext 48 = .ok (.iload_n 1, 1) := by decide +kernel
theorem dX1_goToNext_49 : decode cX1_goToNext 49 = .ok (.if_icmp .le 24, 3) := by decide +kernel
theorem dX1_goToNext_52 : decode cX1_goToNext 52 = .ok (.aload_n 0, 1) := by decide +kernel
theorem dX1_goToNext_53 : decode cX1_goToNext 53 = .ok (.getfield 15, 3) := by decide +kernel
theorem dX1_goToNext_56 : decode cX1_goToNext 56 = .ok (.iload_n 2, 1) := by decide +kernel
theorem dX1_goToNext_57 : decode cX1_goToNext 57 = .ok (.iaload, 1) := by decide +kernel
theorem dX1_goToNext_58 : decode cX1_goToNext 58 = .ok (.aload_n 0, 1) := by decide +kernel
theorem dX1_goToNext_59 : decode cX1_goToNext 59 = .ok (.getfield 15, 3) := by decide +kernel
theorem dX1_goToNext_62 : decode cX1_goToNext 62 = .ok (.iload_n 1, 1) := by decide +kernel
theorem dX1_goToNext_63 : decode cX1_goToNext 63 = .ok (.iaload, 1) := by decide +kernel
theorem dX1_goToNext_64 : decode cX1_goToNext 64 = .ok (.if_icmp .gt 9, 3) := by decide +kernel
theorem dX1_goToNext_67 : decode cX1_goToNext 67 = .ok (.iinc 2 (-1), 3) := by decide +kernel
theorem dX1_goToNext_70 : decode cX1_goToNext 70 = .ok (.goto (-23), 3) := by decide +kernel
theorem dX1_goToNext_73 : decode cX1_goToNext 73 = .ok (.aload_n 0, 1) := by decide +kernel
theorem dX1_goToNext_74 : decode cX1_goToNext 74 = .ok (.iload_n 1, 1) := by decide +kernel
theorem dX1_goToNext_75 : decode cX1_goToNext 75 = .ok (.iload_n 2, 1) := by decide +kernel
theorem dX1_goToNext_76 : decode cX1_goToNext 76 = .ok (.invokevirtual 35, 3) := by decide +kernel
theorem dX1_goToNext_79 : decode cX1_goToNext 79 = .ok (.aload_n 0, 1) := by decide +kernel
theorem dX1_goToNext_80 : decode cX1_goToNext 80 = .ok (.iload_n 1, 1) := by decide +kernel
theorem dX1_goToNext_81 : decode cX1_goToNext 81 = .ok (.iconst 1, 1) := by decide +kernel
theorem dX1_goToNext_82 : decode cX1_goToNext 82 = .ok (.iadd, 1) := by decide +kernel
theorem dX1_goToNext_83 : decode cX1_goToNext 83 = .ok (.invokevirtual 39, 3) := by decide +kernel
theorem dX1_goToNext_86 : decode cX1_goToNext 86 = .ok (.iconst 1, 1) := by decide +kernel
theorem dX1_goToNext_87 : decode cX1_goToNext 87 = .ok (.ireturn, 1) := by decide +kernel
theorem dX1_alikeWith_0 : decode cX1_alikeWith 0 = .ok (.iconst 0, 1) := by decide +kernel
theorem dX1_alikeWith_1 : decode cX1_alikeWith 1 = .ok (.istore_n 2, 1) := by decide +kernel
theorem dX1_alikeWith_2 : decode cX1_alikeWith 2 = .ok (.iload_n 2, 1) := by decide +kernel
theorem dX1_alikeWith_3 : decode cX1_alikeWith 3 = .ok (.aload_n 0, 1) := by decide +kernel
theorem dX1_alikeWith_4 : decode cX1_alikeWith 4 = .ok (.getfield 21, 3) := by decide +kernel
theorem dX1_alikeWith_7 : decode cX1_alikeWith 7 = .ok (.if_icmp .ge 32, 3) := by decide +kernel
theorem dX1_alikeWith_10 : decode cX1_alikeWith 10 = .ok (.iload_n 2, 1) := by decide +kernel
theorem dX1_alikeWith_11 : decode cX1_alikeWith 11 = .ok (.aload_n 1, 1) := by decide +kernel
theorem dX1_alikeWith_12 : decode cX1_alikeWith 12 = .ok (.getfield 21, 3) := by decide +kernel
theorem dX1_alikeWith_15 : decode cX1_alikeWith 15 = .ok (.if_icmp .ge 24, 3) := by decide +kernel
theorem dX1_alikeWith_18 : decode cX1_alikeWith 18 = .ok (.aload_n 0, 1) := by decide +kernel
theorem dX1_alikeWith_19 : decode cX1_alikeWith 19 = .ok (.getfield 15, 3) := by decide +kernel
theorem dX1_alikeWith_22 : decode cX1_alikeWith 22 = .ok (.iload_n 2, 1) := by decide +kernel
theorem dX1_alikeWith_23 : decode cX1_alikeWith 23 = .ok (.iaload, 1) := by decide +kernel
theorem dX1_alikeWith_24 : decode cX1_alikeWith 24 = .ok (.aload_n 1, 1) := by decide +kernel
theorem dX1_alikeWith_25 : decode cX1_alikeWith 25 = .ok (.getfield 15, 3) := by decide +kernel
theorem dX1_alikeWith_28 : decode cX1_alikeWith 28 = .ok (.iload_n 2, 1) := by decide +kernel
theorem dX1_alikeWith_29 : decode cX1_alikeWith 29 = .ok (.iaload, 1) := by decide +kernel
theorem dX1_alikeWith_30 : decode cX1_alikeWith 30 = .ok (.if_icmp .ne 9, 3) := by decide +kernel
theorem dX1_alikeWith_33 : decode cX1_alikeWith 33 = .ok (.iinc 2 1, 3) := by decide +kernel
theorem dX1_alikeWith_36 : decode cX1_alikeWith 36 = .ok (.goto (-34), 3) := by decide +kernel
theorem dX1_alikeWith_39 : decode cX1_alikeWith 39 = .ok (.iload_n 2, 1) := by decide +kernel
theorem dX1_alikeWith_40 : decode cX1_alikeWith 40 = .ok (.ireturn, 1) := by decide +kernel
theorem dX1_copy_0 : decode cX1_copy 0 = .ok (.aload_n 1, 1) := by decide +kernel
theorem dX1_copy_1 : decode cX1_copy 1 = .ok (.getfield 21, 3) := by decide +kernel
theorem dX1_copy_4 : decode cX1_copy 4 = .ok (.aload_n 0, 1) := by decide +kernel
theorem dX1_copy_5 : decode cX1_copy 5 = .ok (.getfield 15, 3) := by decide +kernel
theorem dX1_copy_8 : decode cX1_copy 8 = .ok (.arraylength, 1) := by decide +kernel
theorem dX1_copy_9 : decode cX1_copy 9 = .ok (.invokestatic 43, 3) := by decide +kernel
theorem dX1_copy_12 : decode cX1_copy 12 = .ok (.istore_n 2, 1) := by decide +kernel
theorem dX1_copy_13 : decode cX1_copy 13 = .ok (.aload_n 1, 1) := by decide +kernel
theorem dX1_copy_14 : decode cX1_copy 14 = .ok (.getfield 15, 3) := by decide +kernel
theorem dX1_copy_17 : decode cX1_copy 17 = .ok (.iconst 0, 1) := by decide +kernel
theorem dX1_copy_18 : decode cX1_copy 18 = .ok (.aload_n 0, 1) := by decide +kernel
theorem dX1_copy_19 : decode cX1_copy 19 = .ok (.getfield 15, 3) := by decide +kernel
theorem dX1_copy_22 : decode cX1_copy 22 = .ok (.iconst 0, 1) := by decide +kernel
theorem dX1_copy_23 : decode cX1_copy 23 = .ok (.iload_n 2, 1) := by decide +kernel
theorem dX1_copy_24 : decode cX1_copy 24 = .ok (.invokestatic 25, 3) := by decide +kernel
theorem dX1_copy_27 : decode cX1_copy 27 = .ok (.aload_n 0, 1) := by decide +kernel
theorem dX1_copy_28 : decode cX1_copy 28 = .ok (.iload_n 2, 1) := by decide +kernel
theorem dX1_copy_29 : decode cX1_copy 29 = .ok (.putfield 21, 3) := by decide +kernel
theorem dX1_copy_32 : decode cX1_copy 32 = .ok (.return_, 1) := by decide +kernel
theorem dX2_init_0 : decode cX2_init 0 = .ok (.aload_n 0, 1) := by decide +kernel
theorem dX2_init_1 : decode cX2_init 1 = .ok (.invokespecial 3, 3) := by decide +kernel
theorem dX2_init_4 : decode cX2_init 4 = .ok (.aload_n 0, 1) := by decide +kernel
theorem dX2_init_5 : decode cX2_init 5 = .ok (.new 9, 3) := by decide +kernel
theorem dX2_init_8 : decode cX2_init 8 = .ok (.dup, 1) := by decide +kernel
theorem dX2_init_9 : decode cX2_init 9 = .ok (.bipush 24, 2) := by decide +kernel
theorem dX2_init_11 : decode cX2_init 11 = .ok (.invokespecial 11, 3) := by decide +kernel
theorem dX2_init_14 : decode cX2_init 14 = .ok (.putfield 14, 3) := by decide +kernel
theorem dX2_init_17 : decode cX2_init 17 = .ok (.return_, 1) := by decide +kernel
theorem dX2_isMissing_0 : decode cX2_isMissing 0 = .ok (.aload_n 0, 1) := by decide +kernel
theorem dX2_isMissing_1 : decode cX2_isMissing 1 = .ok (.getfield 20, 3) := by decide +kernel
theorem dX2_isMissing_4 : decode cX2_isMissing 4 = .ok (.ifCond .ne 7, 3) := by decide +kernel
theorem dX2_isMissing_7 : decode cX2_isMissing 7 = .ok (.iconst 1, 1) := by decide +kernel
theorem dX2_isMissing_8 : decode cX2_isMissing 8 = .ok (.goto 4, 3) := by decide +kernel
theorem dX2_isMissing_11 : decode cX2_isMissing 11 = .ok (.iconst 0, 1) := by decide +kernel
theorem dX2_isMissing_12 : decode cX2_isMissing 12 = .ok (.ireturn, 1) := by decide +kernel
theorem dX2_begin_0 : decode cX2_begin 0 = .ok (.aload_n 0, 1) := by decide +kernel
theorem dX2_begin_1 : decode cX2_begin 1 = .ok (.iload_n 1, 1) := by decide +kernel
theorem dX2_begin_2 : decode cX2_begin 2 = .ok (.putfield 20, 3) := by decide +kernel
theorem dX2_begin_5 : decode cX2_begin 5 = .ok (.aload_n 0, 1) := by decide +kernel
theorem dX2_begin_6 : decode cX2_begin 6 = .ok (.getfield 14, 3) := by decide +kernel
theorem dX2_begin_9 : decode cX2_begin 9 = .ok (.iconst 0, 1) := by decide +kernel
theorem dX2_begin_10 : decode cX2_begin 10 = .ok (.putfield 24, 3) := by decide +kernel
theorem dX2_begin_13 : decode cX2_begin 13 = .ok (.iconst 0, 1) := by decide +kernel
theorem dX2_begin_14 : decode cX2_begin 14 = .ok (.istore_n 3, 1) := by decide +kernel
theorem dX2_begin_15 : decode cX2_begin 15 = .ok (.iload_n 3, 1) := by decide +kernel
theorem dX2_begin_16 : decode cX2_begin 16 = .ok (.iload_n 2, 1) := by decide +kernel
theorem dX2_begin_17 : decode cX2_begin 17 = .ok (.if_icmp .ge 17, 3) := by decide +kernel
theorem dX2_begin_20 : decode cX2_begin 20 = .ok (.aload_n 0, 1) := by decide +kernel
theorem dX2_begin_21 : decode cX2_begin 21 = .ok (.getfield 14, 3) := by decide +kernel
theorem dX2_begin_24 : decode cX2_begin 24 = .ok (.iconst 0, 1) := by decide +kernel
theorem dX2_begin_25 : decode cX2_begin 25 = .ok (.invokevirtual 27, 3) := by decide +kernel
theorem dX2_begin_28 : decode cX2_begin 28 = .ok (.iinc 3 1, 3) := by decide +kernel
theorem dX2_begin_31 : decode cX2_begin 31 = .ok (.goto (-16), 3) := by decide +kernel
theorem dX2_begin_34 : decode cX2_begin 34 = .ok (.return_, 1) := by decide +kernel
theorem dX2_write_0 : decode cX2_write 0 = .ok (.aload_n 0, 1) := by decide +kernel
theorem dX2_write_1 : decode cX2_write 1 = .ok (.getfield 14, 3) := by decide +kernel
theorem dX2_write_4 : decode cX2_write 4 = .ok (.iload_n 1, 1) := by decide +kernel
theorem dX2_write_5 : decode cX2_write 5 = .ok (.invokevirtual 30, 3) := by decide +kernel
theorem dX2_write_8 : decode cX2_write 8 = .ok (.ifCond .eq 35, 3) := by decide +kernel
theorem dX2_write_11 : decode cX2_write 11 = .ok (.aload_n 0, 1) := by decide +kernel
theorem dX2_write_12 : decode cX2_write 12 = .ok (.getfield 14, 3) := by decide +kernel
theorem dX2_write_15 : decode cX2_write 15 = .ok (.getfield 34, 3) := by decide +kernel
theorem dX2_write_18 : decode cX2_write 18 = .ok (.iload_n 1, 1) := by decide +kernel
theorem dX2_write_19 : decode cX2_write 19 = .ok (.aload_n 0, 1) := by decide +kernel
theorem dX2_write_20 : decode cX2_write 20 = .ok (.getfield 20, 3) := by decide +kernel
theorem dX2_write_23 : decode cX2_write 23 = .ok (.bipush 32, 2) := by decide +kernel
theorem dX2_write_25 : decode cX2_write 25 = .ok (.if_icmp .ne 7, 3) := by decide +kernel
theorem dX2_write_28 : decode cX2_write 28 = .ok (.iload_n 2, 1) := by decide +kernel
theorem dX2_write_29 : decode cX2_write 29 = .ok (.goto 13, 3) := by decide +kernel
theorem dX2_write_32 : decode cX2_write 32 = .ok (.iload_n 2, 1) := by decide +kernel
theorem dX2_write_33 : decode cX2_write 33 = .ok (.iconst 1, 1) := by decide +kernel
theorem dX2_write_34 : decode cX2_write 34 = .ok (.aload_n 0, 1) := by decide +kernel
theorem dX2_write_35 : decode cX2_write 35 = .ok (.getfield 20, 3) := by decide +kernel
theorem dX2_write_38 : decode cX2_write 38 = .ok (.ishl, 1) := by decide +kernel
theorem dX2_write_39 : decode cX2_write 39 = .ok (.iconst 1, 1) := by decide +kernel
theorem dX2_write_40 : decode cX2_write 40 = .ok (.isub, 1) := by decide +kernel
theorem dX2_write_41 : decode cX2_write 41 = .ok (.iand, 1) := by decide +kernel
theorem dX2_write_42 : decode cX2_write 42 = .ok (.iastore, 1) := by decide +kernel
theorem dX2_write_43 : decode cX2_write 43 = .ok (.return_, 1) := by decide +kernel
theorem dX3_init_0 : decode cX3_init 0 = .ok (.aload_n 0, 1) := by decide +kernel
theorem dX3_init_1 : decode cX3_init 1 = .ok (.invokespecial 3, 3) := by decide +kernel
theorem dX3_init_4 : decode cX3_init 4 = .ok (.aload_n 0, 1) := by decide +kernel
theorem dX3_init_5 : decode cX3_init 5 = .ok (.new 9, 3) := by decide +kernel
theorem dX3_init_8 : decode cX3_init 8 = .ok (.dup, 1) := by decide +kernel
theorem dX3_init_9 : decode cX3_init 9 = .ok (.bipush 60, 2) := by decide +kernel
theorem dX3_init_11 : decode cX3_init 11 = .ok (.invokespecial 11, 3) := by decide +kernel
theorem dX3_init_14 : decode cX3_init 14 = .ok (.putfield 14, 3) := by decide +kernel
theorem dX3_init_17 : decode cX3_init 17 = .ok (.aload_n 0, 1) := by decide +kernel
theorem dX3_init_18 : decode cX3_init 18 = .ok (.new 9, 3) := by decide +kernel
theorem dX3_init_21 : decode cX3_init 21 = .ok (.dup, 1) := by decide +kernel
theorem dX3_init_22 : decode cX3_init 22 = .ok (.bipush 60, 2) := by decide +kernel
theorem dX3_init_24 : decode cX3_init 24 = .ok (.invokespecial 11, 3) := by decide +kernel
theorem dX3_init_27 : decode cX3_init 27 = .ok (.putfield 20, 3) := by decide +kernel
theorem dX3_init_30 : decode cX3_init 30 = .ok (.aload_n 0, 1) := by decide +kernel
theorem dX3_init_31 : decode cX3_init 31 = .ok (.bipush 60, 2) := by decide +kernel
theorem dX3_init_33 : decode cX3_init 33 = .ok (.newarray .int, 2) := by decide +kernel
theorem dX3_init_35 : decode cX3_init 35 = .ok (.putfield 23, 3) := by decide +kernel
theorem dX3_init_38 : decode cX3_init 38 = .ok (.aload_n 0, 1) := by decide +kernel
theorem dX3_init_39 : decode cX3_init 39 = .ok (.ldc 27, 2) := by decide +kernel
theorem dX3_init_41 : decode cX3_init 41 = .ok (.putfield 29, 3) := by decide +kernel
theorem dX3_init_44 : decode cX3_init 44 = .ok (.return_, 1) := by decide +kernel
theorem dX3_isThere_0 : decode cX3_isThere 0 = .ok (.aload_n 0, 1) := by decide +kernel
theorem dX3_isThere_1 : decode cX3_isThere 1 = .ok (.getfield 14, 3) := by decide +kernel
theorem dX3_isThere_4 : decode cX3_isThere 4 = .ok (.getfield 33, 3) := by decide +kernel
theorem dX3_isThere_7 : decode cX3_isThere 7 = .ok (.ifCond .le 7, 3) := by decide +kernel
theorem dX3_isThere_10 : decode cX3_isThere 10 = .ok (.iconst 1, 1) := by decide +kernel
theorem dX3_isThere_11 : decode cX3_isThere 11 = .ok (.goto 4, 3) := by decide +kernel
theorem dX3_isThere_14 : decode cX3_isThere 14 = .ok (.iconst 0, 1) := by decide +kernel
theorem dX3_isThere_15 : decode cX3_isThere 15 = .ok (.ireturn, 1) := by decide +kernel
theorem dX3_read_0 : decode cX3_read 0 = .ok (.aload_n 0, 1) := by decide +kernel
theorem dX3_read_1 : decode cX3_read 1 = .ok (.aload_n 1, 1) := by decide +kernel
theorem dX3_read_2 : decode cX3_read 2 = .ok (.putfield 37, 3) := by decide +kernel
theorem dX3_read_5 : decode cX3_read 5 = .ok (.aload_n 0, 1) := by decide +kernel
theorem dX3_read_6 : decode cX3_read 6 = .ok (.aload_n 2, 1) := by decide +kernel
theorem dX3_read_7 : decode cX3_read 7 = .ok (.putfield 29, 3) := by decide +kernel
theorem dX3_read_10 : decode cX3_read 10 = .ok (.aload_n 0, 1) := by decide +kernel
theorem dX3_read_11 : decode cX3_read 11 = .ok (.iconst 0, 1) := by decide +kernel
theorem dX3_read_12 : decode cX3_read 12 = .ok (.putfield 40, 3) := by decide +kernel
theorem dX3_read_15 : decode cX3_read 15 = .ok (.aload_n 0, 1) := by decide +kernel
theorem dX3_read_16 : decode cX3_read 16 = .ok (.getfield 20, 3) := by decide +kernel
theorem dX3_read_19 : decode cX3_read 19 = .ok (.iconst 0, 1) := by decide +kernel
theorem dX3_read_20 : decode cX3_read 20 = .ok (.putfield 33, 3) := by decide +kernel
theorem dX3_read_23 : decode cX3_read 23 = .ok (.aload_n 0, 1) := by decide +kernel
theorem dX3_read_24 : decode cX3_read 24 = .ok (.iconst 0, 1) := by decide +kernel
theorem dX3_read_25 : decode cX3_read 25 = .ok (.iconst 0, 1) := by decide +kernel
theorem dX3_read_26 : decode cX3_read 26 = .ok (.invokevirtual 43, 3) := by decide +kernel
theorem dX3_read_29 : decode cX3_read 29 = .ok (.ifCond .eq 14, 3) := by decide +kernel
theorem dX3_read_32 : decode cX3_read 32 = .ok (.aload_n 0, 1) := by decide +kernel
theorem dX3_read_33 : decode cX3_read 33 = .ok (.getfield 40, 3) := by decide +kernel
theorem dX3_read_36 : decode cX3_read 36 = .ok (.aload_n 1, 1) := by decide +kernel
theorem dX3_read_37 : decode cX3_read 37 = .ok (.getfield 33, 3) := by decide +kernel
theorem dX3_read_40 : decode cX3_read 40 = .ok (.if_icmp .ge 8, 3) := by decide +kernel
theorem dX3_read_43 : decode cX3_read 43 = .ok (.aload_n 0, 1) := by decide +kernel
theorem dX3_read_44 : decode cX3_read 44 = .ok (.getfield 40, 3) := by decide +kernel
theorem dX3_read_47 : decode cX3_read 47 = .ok (.ireturn, 1) := by decide +kernel
theorem dX3_read_48 : decode cX3_read 48 = .ok (.aload_n 0, 1) := by decide +kernel
theorem dX3_read_49 : decode cX3_read 49 = .ok (.getfield 14, 3) := by decide +kernel
theorem dX3_read_52 : decode cX3_read 52 = .ok (.aload_n 0, 1) := by decide +kernel
theorem dX3_read_53 : decode cX3_read 53 = .ok (.getfield 20, 3) := by decide +kernel
theorem dX3_read_56 : decode cX3_read 56 = .ok (.invokevirtual 47, 3) := by decide +kernel
theorem dX3_read_59 : decode cX3_read 59 = .ok (.iconst (-1), 1) := by decide +kernel
theorem dX3_read_60 : decode cX3_read 60 = .ok (.ireturn, 1) := by decide +kernel
theorem dX3_reads_0 : decode cX3_reads 0 = .ok (.iload_n 1, 1) := by decide +kernel
theorem dX3_reads_1 : decode cX3_reads 1 = .ok (.iconst 5, 1) := by decide +kernel
theorem dX3_reads_2 : decode cX3_reads 2 = .ok (.if_icmp .lt 9, 3) := by decide +kernel
theorem dX3_reads_5 : decode cX3_reads 5 = .ok (.aload_n 0, 1) := by decide +kernel
theorem dX3_reads_6 : decode cX3_reads 6 = .ok (.iload_n 2, 1) := by decide +kernel
theorem dX3_reads_7 : decode cX3_reads 7 = .ok (.invokevirtual 51, 3) := by decide +kernel
theorem dX3_reads_10 : decode cX3_reads 10 = .ok (.ireturn, 1) := by decide +kernel
theorem dX3_reads_11 : decode cX3_reads 11 = .ok (.aload_n 0, 1) := by decide +kernel
theorem dX3_reads_12 : decode cX3_reads 12 = .ok (.iload_n 1, 1) := by decide +kernel
theorem dX3_reads_13 : decode cX3_reads 13 = .ok (.iconst 1, 1) := by decide +kernel
theorem dX3_reads_14 : decode cX3_reads 14 = .ok (.iadd, 1) := by decide +kernel
theorem dX3_reads_15 : decode cX3_reads 15 = .ok (.iload_n 2, 1) := by decide +kernel
theorem dX3_reads_16 : decode cX3_reads 16 = .ok (.invokevirtual 43, 3) := by decide +kernel
theorem dX3_reads_19 : decode cX3_reads 19 = .ok (.ifCond .ne 5, 3) := by decide +kernel
theorem dX3_reads_22 : decode cX3_reads 22 = .ok (.iconst 0, 1) := by decide +kernel
theorem dX3_reads_23 : decode cX3_reads 23 = .ok (.ireturn, 1) := by decide +kernel
theorem dX3_reads_24 : decode cX3_reads 24 = .ok (.iconst 0, 1) := by decide +kernel
theorem dX3_reads_25 : decode cX3_reads 25 = .ok (.istore_n 3, 1) := by decide +kernel
theorem dX3_reads_26 : decode cX3_reads 26 = .ok (.iload_n 3, 1) := by decide +kernel
theorem dX3_reads_27 : decode cX3_reads 27 = .ok (.bipush 60, 2) := by decide +kernel
theorem dX3_reads_29 : decode cX3_reads 29 = .ok (.if_icmp .ge 66, 3) := by decide +kernel
theorem dX3_reads_32 : decode cX3_reads 32 = .ok (.aload_n 0, 1) := by decide +kernel
theorem dX3_reads_33 : decode cX3_reads 33 = .ok (.iload_n 1, 1) := by decide +kernel
theorem dX3_reads_34 : decode cX3_reads 34 = .ok (.invokestatic 55, 3) := by decide +kernel
theorem dX3_reads_37 : decode cX3_reads 37 = .ok (.invokevirtual 59, 3) := by decide +kernel
theorem dX3_reads_40 : decode cX3_reads 40 = .ok (.ifCond .eq 55, 3) := by decide +kernel
theorem dX3_reads_43 : decode cX3_reads 43 = .ok (.aload_n 0, 1) := by decide +kernel
theorem dX3_reads_44 : decode cX3_reads 44 = .ok (.invokevirtual 63, 3) := by decide +kernel
theorem dX3_reads_47 : decode cX3_reads 47 = .ok (.istore 4, 2) := by decide +kernel
theorem dX3_reads_49 : decode cX3_reads 49 = .ok (.aload_n 0, 1) := by decide +kernel
theorem dX3_reads_50 : decode cX3_reads 50 = .ok (.dup, 1) := by decide +kernel
theorem dX3_reads_51 : decode cX3_reads 51 = .ok (.getfield 40, 3) := by decide +kernel
theorem dX3_reads_54 : decode cX3_reads 54 = .ok (.iconst 1, 1) := by decide +kernel
theorem dX3_reads_55 : decode cX3_reads 55 = .ok (.iadd, 1) := by decide +kernel
theorem dX3_reads_56 : decode cX3_reads 56 = .ok (.putfield 40, 3) := by decide +kernel
theorem dX3_reads_59 : decode cX3_reads 59 = .ok (.aload_n 0, 1) := by decide +kernel
theorem dX3_reads_60 : decode cX3_reads 60 = .ok (.iload_n 1, 1) := by decide +kernel
theorem dX3_reads_61 : decode cX3_reads 61 = .ok (.iconst 1, 1) := by decide +kernel
theorem dX3_reads_62 : decode cX3_reads 62 = .ok (.iadd, 1) := by decide +kernel
theorem dX3_reads_63 : decode cX3_reads 63 = .ok (.iload_n 2, 1) := by decide +kernel
theorem dX3_reads_64 : decode cX3_reads 64 = .ok (.invokevirtual 43, 3) := by decide +kernel
theorem dX3_reads_67 : decode cX3_reads 67 = .ok (.ifCond .ne 5, 3) := by decide +kernel
theorem dX3_reads_70 : decode cX3_reads 70 = .ok (.iconst 0, 1) := by decide +kernel
theorem dX3_reads_71 : decode cX3_reads 71 = .ok (.ireturn, 1) := by decide +kernel
theorem dX3_reads_72 : decode cX3_reads 72 = .ok (.aload_n 0, 1) := by decide +kernel
theorem dX3_reads_73 : decode cX3_reads 73 = .ok (.getfield 20, 3) := by decide +kernel
theorem dX3_reads_76 : decode cX3_reads 76 = .ok (.iload 4, 2) := by decide +kernel
theorem dX3_reads_78 : decode cX3_reads 78 = .ok (.ineg, 1) := by decide +kernel
theorem dX3_reads_79 : decode cX3_reads 79 = .ok (.invokevirtual 67, 3) := by decide +kernel
theorem dX3_reads_82 : decode cX3_reads 82 = .ok (.iload_n 1, 1) := by decide +kernel
theorem dX3_reads_83 : decode cX3_reads 83 = .ok (.iconst 2, 1) := by decide +kernel
theorem dX3_reads_84 : decode cX3_reads 84 = .ok (.if_icmp .ne 5, 3) := by decide +kernel
theorem dX3_reads_87 : decode cX3_reads 87 = .ok (.iconst 1, 1) := by decide +kernel
theorem dX3_reads_88 : decode cX3_reads 88 = .ok (.ireturn, 1) := by decide +kernel
theorem dX3_reads_89 : decode cX3_reads 89 = .ok (.iinc 3 1, 3) := by decide +kernel
theorem dX3_reads_92 : decode cX3_reads 92 = .ok (.goto (-66), 3) := by decide +kernel
theorem dX3_reads_95 : decode cX3_reads 95 = .ok (.iconst 1, 1) := by decide +kernel
theorem dX3_reads_96 : decode cX3_reads 96 = .ok (.ireturn, 1) := by decide +kernel
theorem dX3_readsSingle_0 : decode cX3_readsSingle 0 = .ok (.aload_n 0, 1) := by decide +kernel
theorem dX3_readsSingle_1 : decode cX3_readsSingle 1 = .ok (.ldc 70, 2) := by decide +kernel
theorem dX3_readsSingle_3 : decode cX3_readsSingle 3 = .ok (.invokevirtual 59, 3) := by decide +kernel
theorem dX3_readsSingle_6 : decode cX3_readsSingle 6 = .ok (.ifCond .eq 9, 3) := by decide +kernel
theorem dX3_readsSingle_9 : decode cX3_readsSingle 9 = .ok (.aload_n 0, 1) := by decide +kernel
theorem dX3_readsSingle_10 : decode cX3_readsSingle 10 = .ok (.invokevirtual 72, 3) := by decide +kernel
theorem dX3_readsSingle_13 : decode cX3_readsSingle 13 = .ok (.iconst 1, 1) := by decide +kernel
theorem dX3_readsSingle_14 : decode cX3_readsSingle 14 = .ok (.ireturn, 1) := by decide +kernel
theorem dX3_readsSingle_15 : decode cX3_readsSingle 15 = .ok (.aload_n 0, 1) := by decide +kernel
theorem dX3_readsSingle_16 : decode cX3_readsSingle 16 = .ok (.aload_n 0, 1) := by decide +kernel
theorem dX3_readsSingle_17 : decode cX3_readsSingle 17 = .ok (.getfield 29, 3) := by decide +kernel
theorem dX3_readsSingle_20 : decode cX3_readsSingle 20 = .ok (.invokevirtual 59, 3) := by decide +kernel
theorem dX3_readsSingle_23 : decode cX3_readsSingle 23 = .ok (.ifCond .eq 36, 3) := by decide +kernel
theorem dX3_readsSingle_26 : decode cX3_readsSingle 26 = .ok (.aload_n 0, 1) := by decide +kernel
theorem dX3_readsSingle_27 : decode cX3_readsSingle 27 = .ok (.getfield 20, 3) := by decide +kernel
theorem dX3_readsSingle_30 : decode cX3_readsSingle 30 = .ok (.iconst (-1), 1) := by decide +kernel
theorem dX3_readsSingle_31 : decode cX3_readsSingle 31 = .ok (.aload_n 0, 1) := by decide +kernel
theorem dX3_readsSingle_32 : decode cX3_readsSingle 32 = .ok (.getfield 29, 3) := by decide +kernel
theorem dX3_readsSingle_35 : decode cX3_readsSingle 35 = .ok (.aload_n 0, 1) := by decide +kernel
theorem dX3_readsSingle_36 : decode cX3_readsSingle 36 = .ok (.invokevirtual 63, 3) := by decide +kernel
theorem dX3_readsSingle_39 : decode cX3_readsSingle 39 = .ok (.i2c, 1) := by decide +kernel
theorem dX3_readsSingle_40 : decode cX3_readsSingle 40 = .ok (.invokevirtual 75, 3) := by decide +kernel
theorem dX3_readsSingle_43 : decode cX3_readsSingle 43 = .ok (.isub, 1) := by decide +kernel
theorem dX3_readsSingle_44 : decode cX3_readsSingle 44 = .ok (.invokevirtual 67, 3) := by decide +kernel
theorem dX3_readsSingle_47 : decode cX3_readsSingle 47 = .ok (.aload_n 0, 1) := by decide +kernel
theorem dX3_readsSingle_48 : decode cX3_readsSingle 48 = .ok (.dup, 1) := by decide +kernel
theorem dX3_readsSingle_49 : decode cX3_readsSingle 49 = .ok (.getfield 40, 3) := by decide +kernel
theorem dX3_readsSingle_52 : decode cX3_readsSingle 52 = .ok (.iconst 1, 1) := by decide +kernel
theorem dX3_readsSingle_53 : decode cX3_readsSingle 53 = .ok (.iadd, 1) := by decide +kernel
theorem dX3_readsSingle_54 : decode cX3_readsSingle 54 = .ok (.putfield 40, 3) := by decide +kernel
theorem dX3_readsSingle_57 : decode cX3_readsSingle 57 = .ok (.iconst 1, 1) := by decide +kernel
theorem dX3_readsSingle_58 : decode cX3_readsSingle 58 = .ok (.ireturn, 1) := by decide +kernel
theorem dX3_readsSingle_59 : decode cX3_readsSingle 59 = .ok (.iload_n 1, 1) := by decide +kernel
theorem dX3_readsSingle_60 : decode cX3_readsSingle 60 = .ok (.iconst 5, 1) := by decide +kernel
theorem dX3_readsSingle_61 : decode cX3_readsSingle 61 = .ok (.if_icmp .ge 12, 3) := by decide +kernel
theorem dX3_readsSingle_64 : decode cX3_readsSingle 64 = .ok (.aload_n 0, 1) := by decide +kernel
theorem dX3_readsSingle_65 : decode cX3_readsSingle 65 = .ok (.ldc 81, 2) := by decide +kernel
theorem dX3_readsSingle_67 : decode cX3_readsSingle 67 = .ok (.invokevirtual 59, 3) := by decide +kernel
theorem dX3_readsSingle_70 : decode cX3_readsSingle 70 = .ok (.ifCond .ne 5, 3) := by decide +kernel
theorem dX3_readsSingle_73 : decode cX3_readsSingle 73 = .ok (.iconst 0, 1) := by decide +kernel
theorem dX3_readsSingle_74 : decode cX3_readsSingle 74 = .ok (.ireturn, 1) := by decide +kernel
theorem dX3_readsSingle_75 : decode cX3_readsSingle 75 = .ok (.aload_n 0, 1) := by decide +kernel
theorem dX3_readsSingle_76 : decode cX3_readsSingle 76 = .ok (.invokevirtual 63, 3) := by decide +kernel
theorem dX3_readsSingle_79 : decode cX3_readsSingle 79 = .ok (.bipush 33, 2) := by decide +kernel
theorem dX3_readsSingle_81 : decode cX3_readsSingle 81 = .ok (.if_icmp .ne 7, 3) := by decide +kernel
theorem dX3_readsSingle_84 : decode cX3_readsSingle 84 = .ok (.iconst 1, 1) := by decide +kernel
theorem dX3_readsSingle_85 : decode cX3_readsSingle 85 = .ok (.goto 4, 3) := by decide +kernel
theorem dX3_readsSingle_88 : decode cX3_readsSingle 88 = .ok (.iconst 0, 1) := by decide +kernel
theorem dX3_readsSingle_89 : decode cX3_readsSingle 89 = .ok (.istore_n 2, 1) := by decide +kernel
theorem dX3_readsSingle_90 : decode cX3_readsSingle 90 = .ok (.aload_n 0, 1) := by decide +kernel
theorem dX3_readsSingle_91 : decode cX3_readsSingle 91 = .ok (.dup, 1) := by decide +kernel
theorem dX3_readsSingle_92 : decode cX3_readsSingle 92 = .ok (.getfield 40, 3) := by decide +kernel
theorem dX3_readsSingle_95 : decode cX3_readsSingle 95 = .ok (.iconst 1, 1) := by decide +kernel
theorem dX3_readsSingle_96 : decode cX3_readsSingle 96 = .ok (.iadd, 1) := by decide +kernel
theorem dX3_readsSingle_97 : decode cX3_readsSingle 97 = .ok (.putfield 40, 3) := by decide +kernel
theorem dX3_readsSingle_100 : decode cX3_readsSingle 100 = .ok (.iload_n 2, 1) := by decide +kernel
theorem dX3_readsSingle_101 : decode cX3_readsSingle 101 = .ok (.ifCond .eq 22, 3) := by decide +kernel
theorem dX3_readsSingle_104 : decode cX3_readsSingle 104 = .ok (.aload_n 0, 1) := by decide +kernel
theorem dX3_readsSingle_105 : decode cX3_readsSingle 105 = .ok (.iload_n 1, 1) := by decide +kernel
theorem dX3_readsSingle_106 : decode cX3_readsSingle 106 = .ok (.iconst 1, 1) := by decide +kernel
theorem dX3_readsSingle_107 : decode cX3_readsSingle 107 = .ok (.iadd, 1) := by decide +kernel
theorem dX3_readsSingle_108 : decode cX3_readsSingle 108 = .ok (.invokevirtual 51, 3) := by decide +kernel
theorem dX3_readsSingle_111 : decode cX3_readsSingle 111 = .ok (.istore_n 3, 1) := by decide +kernel
theorem dX3_readsSingle_112 : decode cX3_readsSingle 112 = .ok (.aload_n 0, 1) := by decide +kernel
theorem dX3_readsSingle_113 : decode cX3_readsSingle 113 = .ok (.getfield 20, 3) := by decide +kernel
theorem dX3_readsSingle_116 : decode cX3_readsSingle 116 = .ok (.bipush (-33), 2) := by decide +kernel
theorem dX3_readsSingle_118 : decode cX3_readsSingle 118 = .ok (.invokevirtual 67, 3) := by decide +kernel
theorem dX3_readsSingle_121 : decode cX3_readsSingle 121 = .ok (.iload_n 3, 1) := by decide +kernel
theorem dX3_readsSingle_122 : decode cX3_readsSingle 122 = .ok (.ireturn, 1) := by decide +kernel
theorem dX3_readsSingle_123 : decode cX3_readsSingle 123 = .ok (.aload_n 0, 1) := by decide +kernel
theorem dX3_readsSingle_124 : decode cX3_readsSingle 124 = .ok (.iconst 0, 1) := by decide +kernel
theorem dX3_readsSingle_125 : decode cX3_readsSingle 125 = .ok (.iload_n 1, 1) := by decide +kernel
theorem dX3_readsSingle_126 : decode cX3_readsSingle 126 = .ok (.iconst 1, 1) := by decide +kernel
theorem dX3_readsSingle_127 : decode cX3_readsSingle 127 = .ok (.iadd, 1) := by decide +kernel
theorem dX3_readsSingle_128 : decode cX3_readsSingle 128 = .ok (.invokevirtual 43, 3) := by decide +kernel
theorem dX3_readsSingle_131 : decode cX3_readsSingle 131 = .ok (.ifCond .eq 12, 3) := by decide +kernel
theorem dX3_readsSingle_134 : decode cX3_readsSingle 134 = .ok (.aload_n 0, 1) := by decide +kernel
theorem dX3_readsSingle_135 : decode cX3_readsSingle 135 = .ok (.invokevirtual 63, 3) := by decide +kernel
theorem dX3_readsSingle_138 : decode cX3_readsSingle 138 = .ok (.bipush 41, 2) := by decide +kernel
theorem dX3_readsSingle_140 : decode cX3_readsSingle 140 = .ok (.if_icmp .eq 5, 3) := by decide +kernel
theorem dX3_readsSingle_143 : decode cX3_readsSingle 143 = .ok (.iconst 0, 1) := by decide +kernel
theorem dX3_readsSingle_144 : decode cX3_readsSingle 144 = .ok (.ireturn, 1) := by decide +kernel
theorem dX3_readsSingle_145 : decode cX3_readsSingle 145 = .ok (.aload_n 0, 1) := by decide +kernel
theorem dX3_readsSingle_146 : decode cX3_readsSingle 146 = .ok (.dup, 1) := by decide +kernel
theorem dX3_readsSingle_147 : decode cX3_readsSingle 147 = .ok (.getfield 40, 3) := by decide +kernel
theorem dX3_readsSingle_150 : decode cX3_readsSingle 150 = .ok (.iconst 1, 1) := by decide +kernel
theorem dX3_readsSingle_151 : decode cX3_readsSingle 151 = .ok (.iadd, 1) := by decide +kernel
theorem dX3_readsSingle_152 : decode cX3_readsSingle 152 = .ok (.putfield 40, 3) := by decide +kernel
theorem dX3_readsSingle_155 : decode cX3_readsSingle 155 = .ok (.iconst 1, 1) := by decide +kernel
theorem dX3_readsSingle_156 : decode cX3_readsSingle 156 = .ok (.ireturn, 1) := by decide +kernel
theorem dX3_readNumber_0 : decode cX3_readNumber 0 = .ok (.iconst 0, 1) := by decide +kernel
theorem dX3_readNumber_1 : decode cX3_readNumber 1 = .ok (.istore_n 1, 1) := by decide +kernel
theorem dX3_readNumber_2 : decode cX3_readNumber 2 = .ok (.iconst 0, 1) := by decide +kernel
theorem dX3_readNumber_3 : decode cX3_readNumber 3 = .ok (.istore_n 2, 1) := by decide +kernel
theorem dX3_readNumber_4 : decode cX3_readNumber 4 = .ok (.iload_n 2, 1) := by decide +kernel
theorem dX3_readNumber_5 : decode cX3_readNumber 5 = .ok (.iconst 4, 1) := by decide +kernel
theorem dX3_readNumber_6 : decode cX3_readNumber 6 = .ok (.if_icmp .ge 41, 3) := by decide +kernel
theorem dX3_readNumber_9 : decode cX3_readNumber 9 = .ok (.aload_n 0, 1) := by decide +kernel
theorem dX3_readNumber_10 : decode cX3_readNumber 10 = .ok (.ldc 70, 2) := by decide +kernel
theorem dX3_readNumber_12 : decode cX3_readNumber 12 = .ok (.invokevirtual 59, 3) := by decide +kernel
theorem dX3_readNumber_15 : decode cX3_readNumber 15 = .ok (.ifCond .eq 32, 3) := by decide +kernel
theorem dX3_readNumber_18 : decode cX3_readNumber 18 = .ok (.bipush 10, 2) := by decide +kernel
theorem dX3_readNumber_20 : decode cX3_readNumber 20 = .ok (.iload_n 1, 1) := by decide +kernel
theorem dX3_readNumber_21 : decode cX3_readNumber 21 = .ok (.imul, 1) := by decide +kernel
theorem dX3_readNumber_22 : decode cX3_readNumber 22 = .ok (.aload_n 0, 1) := by decide +kernel
theorem dX3_readNumber_23 : decode cX3_readNumber 23 = .ok (.invokevirtual 63, 3) := by decide +kernel
theorem dX3_readNumber_26 : decode cX3_readNumber 26 = .ok (.iadd, 1) := by decide +kernel
theorem dX3_readNumber_27 : decode cX3_readNumber 27 = .ok (.bipush 48, 2) := by decide +kernel
theorem dX3_readNumber_29 : decode cX3_readNumber 29 = .ok (.isub, 1) := by decide +kernel
theorem dX3_readNumber_30 : decode cX3_readNumber 30 = .ok (.istore_n 1, 1) := by decide +kernel
theorem dX3_readNumber_31 : decode cX3_readNumber 31 = .ok (.aload_n 0, 1) := by decide +kernel
theorem dX3_readNumber_32 : decode cX3_readNumber 32 = .ok (.dup, 1) := by decide +kernel
theorem dX3_readNumber_33 : decode cX3_readNumber 33 = .ok (.getfield 40, 3) := by decide +kernel
theorem dX3_readNumber_36 : decode cX3_readNumber 36 = .ok (.iconst 1, 1) := by decide +kernel
theorem dX3_readNumber_37 : decode cX3_readNumber 37 = .ok (.iadd, 1) := by decide +kernel
theorem dX3_readNumber_38 : decode cX3_readNumber 38 = .ok (.putfield 40, 3) := by decide +kernel
theorem dX3_readNumber_41 : decode cX3_readNumber 41 = .ok (.iinc 2 1, 3) := by decide +kernel
theorem dX3_readNumber_44 : decode cX3_readNumber 44 = .ok (.goto (-40), 3) := by decide +kernel
theorem dX3_readNumber_47 : decode cX3_readNumber 47 = .ok (.aload_n 0, 1) := by decide +kernel
theorem dX3_readNumber_48 : decode cX3_readNumber 48 = .ok (.getfield 20, 3) := by decide +kernel
theorem dX3_readNumber_51 : decode cX3_readNumber 51 = .ok (.iload_n 1, 1) := by decide +kernel
theorem dX3_readNumber_52 : decode cX3_readNumber 52 = .ok (.invokevirtual 67, 3) := by decide +kernel
theorem dX3_readNumber_55 : decode cX3_readNumber 55 = .ok (.return_, 1) := by decide +kernel
theorem dX3_signsOf_0 : decode cX3_signsOf 0 = .ok (.iload_n 0, 1) := by decide +kernel
theorem dX3_signsOf_1 : decode cX3_signsOf 1 = .ok (.tableswitch 43 0 3 #[31, 34, 37, 40], 31) := by decide +kernel
theorem dX3_signsOf_32 : decode cX3_signsOf 32 = .ok (.ldc 83, 2) := by decide +kernel
theorem dX3_signsOf_34 : decode cX3_signsOf 34 = .ok (.areturn, 1) := by decide +kernel
theorem dX3_signsOf_35 : decode cX3_signsOf 35 = .ok (.ldc 85, 2) := by decide +kernel
theorem dX3_signsOf_37 : decode cX3_signsOf 37 = .ok (.areturn, 1) := by decide +kernel
theorem dX3_signsOf_38 : decode cX3_signsOf 38 = .ok (.ldc 87, 2) := by decide +kernel
theorem dX3_signsOf_40 : decode cX3_signsOf 40 = .ok (.areturn, 1) := by decide +kernel
theorem dX3_signsOf_41 : decode cX3_signsOf 41 = .ok (.ldc 89, 2) := by decide +kernel
theorem dX3_signsOf_43 : decode cX3_signsOf 43 = .ok (.areturn, 1) := by decide +kernel
theorem dX3_signsOf_44 : decode cX3_signsOf 44 = .ok (.ldc 91, 2) := by decide +kernel
theorem dX3_signsOf_46 : decode cX3_signsOf 46 = .ok (.areturn, 1) := by decide +kernel
theorem dX3_here_0 : decode cX3_here 0 = .ok (.aload_n 0, 1) := by decide +kernel
theorem dX3_here_1 : decode cX3_here 1 = .ok (.getfield 37, 3) := by decide +kernel
theorem dX3_here_4 : decode cX3_here 4 = .ok (.ifnull 32, 3) := by decide +kernel
theorem dX3_here_7 : decode cX3_here 7 = .ok (.aload_n 0, 1) := by decide +kernel
theorem dX3_here_8 : decode cX3_here 8 = .ok (.getfield 37, 3) := by decide +kernel
theorem dX3_here_11 : decode cX3_here 11 = .ok (.aload_n 0, 1) := by decide +kernel
theorem dX3_here_12 : decode cX3_here 12 = .ok (.getfield 40, 3) := by decide +kernel
theorem dX3_here_15 : decode cX3_here 15 = .ok (.invokevirtual 93, 3) := by decide +kernel
theorem dX3_here_18 : decode cX3_here 18 = .ok (.ifCond .eq 18, 3) := by decide +kernel
theorem dX3_here_21 : decode cX3_here 21 = .ok (.aload_n 0, 1) := by decide +kernel
theorem dX3_here_22 : decode cX3_here 22 = .ok (.getfield 37, 3) := by decide +kernel
theorem dX3_here_25 : decode cX3_here 25 = .ok (.getfield 96, 3) := by decide +kernel
theorem dX3_here_28 : decode cX3_here 28 = .ok (.aload_n 0, 1) := by decide +kernel
theorem dX3_here_29 : decode cX3_here 29 = .ok (.getfield 40, 3) := by decide +kernel
theorem dX3_here_32 : decode cX3_here 32 = .ok (.iaload, 1) := by decide +kernel
theorem dX3_here_33 : decode cX3_here 33 = .ok (.goto 4, 3) := by decide +kernel
theorem dX3_here_36 : decode cX3_here 36 = .ok (.iconst (-1), 1) := by decide +kernel
theorem dX3_here_37 : decode cX3_here 37 = .ok (.ireturn, 1) := by decide +kernel
theorem dX3_standsIn_0 : decode cX3_standsIn 0 = .ok (.aload_n 0, 1) := by decide +kernel
theorem dX3_standsIn_1 : decode cX3_standsIn 1 = .ok (.invokevirtual 63, 3) := by decide +kernel
theorem dX3_standsIn_4 : decode cX3_standsIn 4 = .ok (.istore_n 2, 1) := by decide +kernel
theorem dX3_standsIn_5 : decode cX3_standsIn 5 = .ok (.iload_n 2, 1) := by decide +kernel
theorem dX3_standsIn_6 : decode cX3_standsIn 6 = .ok (.ifCond .lt 16, 3) := by decide +kernel
theorem dX3_standsIn_9 : decode cX3_standsIn 9 = .ok (.aload_n 1, 1) := by decide +kernel
theorem dX3_standsIn_10 : decode cX3_standsIn 10 = .ok (.iload_n 2, 1) := by decide +kernel
theorem dX3_standsIn_11 : decode cX3_standsIn 11 = .ok (.i2c, 1) := by decide +kernel
theorem dX3_standsIn_12 : decode cX3_standsIn 12 = .ok (.invokevirtual 75, 3) := by decide +kernel
theorem dX3_standsIn_15 : decode cX3_standsIn 15 = .ok (.ifCond .lt 7, 3) := by decide +kernel
theorem dX3_standsIn_18 : decode cX3_standsIn 18 = .ok (.iconst 1, 1) := by decide +kernel
theorem dX3_standsIn_19 : decode cX3_standsIn 19 = .ok (.goto 4, 3) := by decide +kernel
theorem dX3_standsIn_22 : decode cX3_standsIn 22 = .ok (.iconst 0, 1) := by decide +kernel
theorem dX3_standsIn_23 : decode cX3_standsIn 23 = .ok (.ireturn, 1) := by decide +kernel
theorem dX3_value_0 : decode cX3_value 0 = .ok (.iconst 0, 1) := by decide +kernel
theorem dX3_value_1 : decode cX3_value 1 = .ok (.istore 4, 2) := by decide +kernel
theorem dX3_value_3 : decode cX3_value 3 = .ok (.iconst 0, 1) := by decide +kernel
theorem dX3_value_4 : decode cX3_value 4 = .ok (.istore 5, 2) := by decide +kernel
theorem dX3_value_6 : decode cX3_value 6 = .ok (.iload 5, 2) := by decide +kernel
theorem dX3_value_8 : decode cX3_value 8 = .ok (.aload_n 0, 1) := by decide +kernel
theorem dX3_value_9 : decode cX3_value 9 = .ok (.getfield 14, 3) := by decide +kernel
theorem dX3_value_12 : decode cX3_value 12 = .ok (.getfield 33, 3) := by decide +kernel
theorem dX3_value_15 : decode cX3_value 15 = .ok (.if_icmp .ge 171, 3) := by decide +kernel
theorem dX3_value_18 : decode cX3_value 18 = .ok (.aload_n 0, 1) := by decide +kernel
theorem dX3_value_19 : decode cX3_value 19 = .ok (.getfield 14, 3) := by decide +kernel
theorem dX3_value_22 : decode cX3_value 22 = .ok (.getfield 96, 3) := by decide +kernel
theorem dX3_value_25 : decode cX3_value 25 = .ok (.iload 5, 2) := by decide +kernel
theorem dX3_value_27 : decode cX3_value 27 = .ok (.iaload, 1) := by decide +kernel
theorem dX3_value_28 : decode cX3_value 28 = .ok (.istore 6, 2) := by decide +kernel
theorem dX3_value_30 : decode cX3_value 30 = .ok (.iload 6, 2) := by decide +kernel
theorem dX3_value_32 : decode cX3_value 32 = .ok (.bipush (-3), 2) := by decide +kernel
theorem dX3_value_34 : decode cX3_value 34 = .ok (.if_icmp .lt 60, 3) := by decide +kernel
theorem dX3_value_37 : decode cX3_value 37 = .ok (.iload 4, 2) := by decide +kernel
theorem dX3_value_39 : decode cX3_value 39 = .ok (.aload_n 0, 1) := by decide +kernel
theorem dX3_value_40 : decode cX3_value 40 = .ok (.getfield 23, 3) := by decide +kernel
theorem dX3_value_43 : decode cX3_value 43 = .ok (.arraylength, 1) := by decide +kernel
theorem dX3_value_44 : decode cX3_value 44 = .ok (.if_icmp .lt 5, 3) := by decide +kernel
theorem dX3_value_47 : decode cX3_value 47 = .ok (.iconst 0, 1) := by decide +kernel
theorem dX3_value_48 : decode cX3_value 48 = .ok (.ireturn, 1) := by decide +kernel
theorem dX3_value_49 : decode cX3_value 49 = .ok (.aload_n 0, 1) := by decide +kernel
theorem dX3_value_50 : decode cX3_value 50 = .ok (.getfield 23, 3) := by decide +kernel
theorem dX3_value_53 : decode cX3_value 53 = .ok (.iload 4, 2) := by decide +kernel
theorem dX3_value_55 : decode cX3_value 55 = .ok (.iload 6, 2) := by decide +kernel
theorem dX3_value_57 : decode cX3_value 57 = .ok (.ifCond .lt 8, 3) := by decide +kernel
theorem dX3_value_60 : decode cX3_value 60 = .ok (.iload 6, 2) := by decide +kernel
theorem dX3_value_62 : decode cX3_value 62 = .ok (.goto 25, 3) := by decide +kernel
theorem dX3_value_65 : decode cX3_value 65 = .ok (.iload 6, 2) := by decide +kernel
theorem dX3_value_67 : decode cX3_value 67 = .ok (.iconst (-1), 1) := by decide +kernel
theorem dX3_value_68 : decode cX3_value 68 = .ok (.if_icmp .ne 7, 3) := by decide +kernel
theorem dX3_value_71 : decode cX3_value 71 = .ok (.iload_n 1, 1) := by decide +kernel
theorem dX3_value_72 : decode cX3_value 72 = .ok (.goto 15, 3) := by decide +kernel
theorem dX3_value_75 : decode cX3_value 75 = .ok (.iload 6, 2) := by decide +kernel
theorem dX3_value_77 : decode cX3_value 77 = .ok (.bipush (-2), 2) := by decide +kernel
theorem dX3_value_79 : decode cX3_value 79 = .ok (.if_icmp .ne 7, 3) := by decide +kernel
theorem dX3_value_82 : decode cX3_value 82 = .ok (.iload_n 2, 1) := by decide +kernel
theorem dX3_value_83 : decode cX3_value 83 = .ok (.goto 4, 3) := by decide +kernel
theorem dX3_value_86 : decode cX3_value 86 = .ok (.iload_n 3, 1) := by decide +kernel
theorem dX3_value_87 : decode cX3_value 87 = .ok (.iastore, 1) := by decide +kernel
theorem dX3_value_88 : decode cX3_value 88 = .ok (.iinc 4 1, 3) := by decide +kernel
theorem dX3_value_91 : decode cX3_value 91 = .ok (.goto 89, 3) := by decide +kernel
theorem dX3_value_94 : decode cX3_value 94 = .ok (.iload 6, 2) := by decide +kernel
theorem dX3_value_96 : decode cX3_value 96 = .ok (.bipush (-33), 2) := by decide +kernel
theorem dX3_value_98 : decode cX3_value 98 = .ok (.if_icmp .ne 40, 3) := by decide +kernel
theorem dX3_value_101 : decode cX3_value 101 = .ok (.iload 4, 2) := by decide +kernel
theorem dX3_value_103 : decode cX3_value 103 = .ok (.iconst 1, 1) := by decide +kernel
theorem dX3_value_104 : decode cX3_value 104 = .ok (.if_icmp .ge 5, 3) := by decide +kernel
theorem dX3_value_107 : decode cX3_value 107 = .ok (.iconst 0, 1) := by decide +kernel
theorem dX3_value_108 : decode cX3_value 108 = .ok (.ireturn, 1) := by decide +kernel
theorem dX3_value_109 : decode cX3_value 109 = .ok (.aload_n 0, 1) := by decide +kernel
theorem dX3_value_110 : decode cX3_value 110 = .ok (.getfield 23, 3) := by decide +kernel
theorem dX3_value_113 : decode cX3_value 113 = .ok (.iload 4, 2) := by decide +kernel
theorem dX3_value_115 : decode cX3_value 115 = .ok (.iconst 1, 1) := by decide +kernel
theorem dX3_value_116 : decode cX3_value 116 = .ok (.isub, 1) := by decide +kernel
theorem dX3_value_117 : decode cX3_value 117 = .ok (.aload_n 0, 1) := by decide +kernel
theorem dX3_value_118 : decode cX3_value 118 = .ok (.getfield 23, 3) := by decide +kernel
theorem dX3_value_121 : decode cX3_value 121 = .ok (.iload 4, 2) := by decide +kernel
theorem dX3_value_123 : decode cX3_value 123 = .ok (.iconst 1, 1) := by decide +kernel
theorem dX3_value_124 : decode cX3_value 124 = .ok (.isub, 1) := by decide +kernel
theorem dX3_value_125 : decode cX3_value 125 = .ok (.iaload, 1) := by decide +kernel
theorem dX3_value_126 : decode cX3_value 126 = .ok (.ifCond .ne 7, 3) := by decide +kernel
theorem dX3_value_129 : decode cX3_value 129 = .ok (.iconst 1, 1) := by decide +kernel
theorem dX3_value_130 : decode cX3_value 130 = .ok (.goto 4, 3) := by decide +kernel
theorem dX3_value_133 : decode cX3_value 133 = .ok (.iconst 0, 1) := by decide +kernel
theorem dX3_value_134 : decode cX3_value 134 = .ok (.iastore, 1) := by decide +kernel
theorem dX3_value_135 : decode cX3_value 135 = .ok (.goto 45, 3) := by decide +kernel
theorem dX3_value_138 : decode cX3_value 138 = .ok (.iload 4, 2) := by decide +kernel
theorem dX3_value_140 : decode cX3_value 140 = .ok (.iconst 2, 1) := by decide +kernel
theorem dX3_value_141 : decode cX3_value 141 = .ok (.if_icmp .ge 5, 3) := by decide +kernel
theorem dX3_value_144 : decode cX3_value 144 = .ok (.iconst 0, 1) := by decide +kernel
theorem dX3_value_145 : decode cX3_value 145 = .ok (.ireturn, 1) := by decide +kernel
theorem dX3_value_146 : decode cX3_value 146 = .ok (.iinc 4 (-1), 3) := by decide +kernel
theorem dX3_value_149 : decode cX3_value 149 = .ok (.aload_n 0, 1) := by decide +kernel
theorem dX3_value_150 : decode cX3_value 150 = .ok (.getfield 23, 3) := by decide +kernel
theorem dX3_value_153 : decode cX3_value 153 = .ok (.iload 4, 2) := by decide +kernel
theorem dX3_value_155 : decode cX3_value 155 = .ok (.iconst 1, 1) := by decide +kernel
theorem dX3_value_156 : decode cX3_value 156 = .ok (.isub, 1) := by decide +kernel
theorem dX3_value_157 : decode cX3_value 157 = .ok (.iload 6, 2) := by decide +kernel
theorem dX3_value_159 : decode cX3_value 159 = .ok (.ineg, 1) := by decide +kernel
theorem dX3_value_160 : decode cX3_value 160 = .ok (.aload_n 0, 1) := by decide +kernel
theorem dX3_value_161 : decode cX3_value 161 = .ok (.getfield 23, 3) := by decide +kernel
theorem dX3_value_164 : decode cX3_value 164 = .ok (.iload 4, 2) := by decide +kernel
theorem dX3_value_166 : decode cX3_value 166 = .ok (.iconst 1, 1) := by decide +kernel
theorem dX3_value_167 : decode cX3_value 167 = .ok (.isub, 1) := by decide +kernel
theorem dX3_value_168 : decode cX3_value 168 = .ok (.iaload, 1) := by decide +kernel
theorem dX3_value_169 : decode cX3_value 169 = .ok (.aload_n 0, 1) := by decide +kernel
theorem dX3_value_170 : decode cX3_value 170 = .ok (.getfield 23, 3) := by decide +kernel
theorem dX3_value_173 : decode cX3_value 173 = .ok (.iload 4, 2) := by decide +kernel
theorem dX3_value_175 : decode cX3_value 175 = .ok (.iaload, 1) := by decide +kernel
theorem dX3_value_176 : decode cX3_value 176 = .ok (.invokestatic 99, 3) := by decide +kernel
theorem dX3_value_179 : decode cX3_value 179 = .ok (.iastore, 1) := by decide +kernel
theorem dX3_value_180 : decode cX3_value 180 = .ok (.iinc 5 1, 3) := by decide +kernel
theorem dX3_value_183 : decode cX3_value 183 = .ok (.goto (-177), 3) := by decide +kernel
theorem dX3_value_186 : decode cX3_value 186 = .ok (.iload 4, 2) := by decide +kernel
theorem dX3_value_188 : decode cX3_value 188 = .ok (.ifCond .le 12, 3) := by decide +kernel
theorem dX3_value_191 : decode cX3_value 191 = .ok (.aload_n 0, 1) := by decide +kernel
theorem dX3_value_192 : decode cX3_value 192 = .ok (.getfield 23, 3) := by decide +kernel
theorem dX3_value_195 : decode cX3_value 195 = .ok (.iconst 0, 1) := by decide +kernel
theorem dX3_value_196 : decode cX3_value 196 = .ok (.iaload, 1) := by decide +kernel
theorem dX3_value_197 : decode cX3_value 197 = .ok (.goto 4, 3) := by decide +kernel
theorem dX3_value_200 : decode cX3_value 200 = .ok (.iconst 0, 1) := by decide +kernel
theorem dX3_value_201 : decode cX3_value 201 = .ok (.ireturn, 1) := by decide +kernel
theorem dX3_joined_0 : decode cX3_joined 0 = .ok (.iload_n 0, 1) := by decide +kernel
theorem dX3_joined_1 : decode cX3_joined 1 = .ok (.lookupswitch 168 #[(38, 97), (42, 152), (43, 144), (45, 148), (47, 156), (60, 111), (61, 122), (62, 133), (124, 83)], 83) := by decide +kernel
theorem dX3_joined_84 : decode cX3_joined 84 = .ok (.iload_n 1, 1) := by decide +kernel
theorem dX3_joined_85 : decode cX3_joined 85 = .ok (.ifCond .ne 7, 3) := by decide +kernel
theorem dX3_joined_88 : decode cX3_joined 88 = .ok (.iload_n 2, 1) := by decide +kernel
theorem dX3_joined_89 : decode cX3_joined 89 = .ok (.ifCond .eq 7, 3) := by decide +kernel
theorem dX3_joined_92 : decode cX3_joined 92 = .ok (.iconst 1, 1) := by decide +kernel
theorem dX3_joined_93 : decode cX3_joined 93 = .ok (.goto 4, 3) := by decide +kernel
theorem dX3_joined_96 : decode cX3_joined 96 = .ok (.iconst 0, 1) := by decide +kernel
theorem dX3_joined_97 : decode cX3_joined 97 = .ok (.ireturn, 1) := by decide +kernel
theorem dX3_joined_98 : decode cX3_joined 98 = .ok (.iload_n 1, 1) := by decide +kernel
theorem dX3_joined_99 : decode cX3_joined 99 = .ok (.ifCond .eq 11, 3) := by decide +kernel
theorem dX3_joined_102 : decode cX3_joined 102 = .ok (.iload_n 2, 1) := by decide +kernel
theorem dX3_joined_103 : decode cX3_joined 103 = .ok (.ifCond .eq 7, 3) := by decide +kernel
theorem dX3_joined_106 : decode cX3_joined 106 = .ok (.iconst 1, 1) := by decide +kernel
theorem dX3_joined_107 : decode cX3_joined 107 = .ok (.goto 4, 3) := by decide +kernel
theorem dX3_joined_110 : decode cX3_joined 110 = .ok (.iconst 0, 1) := by decide +kernel
theorem dX3_joined_111 : decode cX3_joined 111 = .ok (.ireturn, 1) := by decide +kernel
theorem dX3_joined_112 : decode cX3_joined 112 = .ok (.iload_n 1, 1) := by decide +kernel
theorem dX3_joined_113 : decode cX3_joined 113 = .ok (.iload_n 2, 1) := by decide +kernel
theorem dX3_joined_114 : decode cX3_joined 114 = .ok (.if_icmp .ge 7, 3) := by decide +kernel
theorem dX3_joined_117 : decode cX3_joined 117 = .ok (.iconst 1, 1) := by decide +kernel
theorem dX3_joined_118 : decode cX3_joined 118 = .ok (.goto 4, 3) := by decide +kernel
theorem dX3_joined_121 : decode cX3_joined 121 = .ok (.iconst 0, 1) := by decide +kernel
theorem dX3_joined_122 : decode cX3_joined 122 = .ok (.ireturn, 1) := by decide +kernel
theorem dX3_joined_123 : decode cX3_joined 123 = .ok (.iload_n 1, 1) := by decide +kernel
theorem dX3_joined_124 : decode cX3_joined 124 = .ok (.iload_n 2, 1) := by decide +kernel
theorem dX3_joined_125 : decode cX3_joined 125 = .ok (.if_icmp .ne 7, 3) := by decide +kernel
theorem dX3_joined_128 : decode cX3_joined 128 = .ok (.iconst 1, 1) := by decide +kernel
theorem dX3_joined_129 : decode cX3_joined 129 = .ok (.goto 4, 3) := by decide +kernel
theorem dX3_joined_132 : decode cX3_joined 132 = .ok (.iconst 0, 1) := by decide +kernel
theorem dX3_joined_133 : decode cX3_joined 133 = .ok (.ireturn, 1) := by decide +kernel
theorem dX3_joined_134 : decode cX3_joined 134 = .ok (.iload_n 1, 1) := by decide +kernel
theorem dX3_joined_135 : decode cX3_joined 135 = .ok (.iload_n 2, 1) := by decide +kernel
theorem dX3_joined_136 : decode cX3_joined 136 = .ok (.if_icmp .le 7, 3) := by decide +kernel
theorem dX3_joined_139 : decode cX3_joined 139 = .ok (.iconst 1, 1) := by decide +kernel
theorem dX3_joined_140 : decode cX3_joined 140 = .ok (.goto 4, 3) := by decide +kernel
theorem dX3_joined_143 : decode cX3_joined 143 = .ok (.iconst 0, 1) := by decide +kernel
theorem dX3_joined_144 : decode cX3_joined 144 = .ok (.ireturn, 1) := by decide +kernel
theorem dX3_joined_145 : decode cX3_joined 145 = .ok (.iload_n 1, 1) := by decide +kernel
theorem dX3_joined_146 : decode cX3_joined 146 = .ok (.iload_n 2, 1) := by decide +kernel
theorem dX3_joined_147 : decode cX3_joined 147 = .ok (.iadd, 1) := by decide +kernel
theorem dX3_joined_148 : decode cX3_joined 148 = .ok (.ireturn, 1) := by decide +kernel
theorem dX3_joined_149 : decode cX3_joined 149 = .ok (.iload_n 1, 1) := by decide +kernel
theorem dX3_joined_150 : decode cX3_joined 150 = .ok (.iload_n 2, 1) := by decide +kernel
theorem dX3_joined_151 : decode cX3_joined 151 = .ok (.isub, 1) := by decide +kernel
theorem dX3_joined_152 : decode cX3_joined 152 = .ok (.ireturn, 1) := by decide +kernel
theorem dX3_joined_153 : decode cX3_joined 153 = .ok (.iload_n 1, 1) := by decide +kernel
theorem dX3_joined_154 : decode cX3_joined 154 = .ok (.iload_n 2, 1) := by decide +kernel
theorem dX3_joined_155 : decode cX3_joined 155 = .ok (.imul, 1) := by decide +kernel
theorem dX3_joined_156 : decode cX3_joined 156 = .ok (.ireturn, 1) := by decide +kernel
theorem dX3_joined_157 : decode cX3_joined 157 = .ok (.iload_n 2, 1) := by decide +kernel
theorem dX3_joined_158 : decode cX3_joined 158 = .ok (.ifCond .ne 7, 3) := by decide +kernel
theorem dX3_joined_161 : decode cX3_joined 161 = .ok (.iconst 0, 1) := by decide +kernel
theorem dX3_joined_162 : decode cX3_joined 162 = .ok (.goto 6, 3) := by decide +kernel
theorem dX3_joined_165 : decode cX3_joined 165 = .ok (.iload_n 1, 1) := by decide +kernel
theorem dX3_joined_166 : decode cX3_joined 166 = .ok (.iload_n 2, 1) := by decide +kernel
theorem dX3_joined_167 : decode cX3_joined 167 = .ok (.idiv, 1) := by decide +kernel
theorem dX3_joined_168 : decode cX3_joined 168 = .ok (.ireturn, 1) := by decide +kernel
theorem dX3_joined_169 : decode cX3_joined 169 = .ok (.iload_n 2, 1) := by decide +kernel
theorem dX3_joined_170 : decode cX3_joined 170 = .ok (.ifCond .ne 7, 3) := by decide +kernel
theorem dX3_joined_173 : decode cX3_joined 173 = .ok (.iconst 0, 1) := by decide +kernel
theorem dX3_joined_174 : decode cX3_joined 174 = .ok (.goto 6, 3) := by decide +kernel
theorem dX3_joined_177 : decode cX3_joined 177 = .ok (.iload_n 1, 1) := by decide +kernel
theorem dX3_joined_178 : decode cX3_joined 178 = .ok (.iload_n 2, 1) := by decide +kernel
theorem dX3_joined_179 : decode cX3_joined 179 = .ok (.irem, 1) := by decide +kernel
theorem dX3_joined_180 : decode cX3_joined 180 = .ok (.ireturn, 1) := by decide +kernel
theorem dX3_copy_0 : decode cX3_copy 0 = .ok (.aload_n 0, 1) := by decide +kernel
theorem dX3_copy_1 : decode cX3_copy 1 = .ok (.getfield 14, 3) := by decide +kernel
theorem dX3_copy_4 : decode cX3_copy 4 = .ok (.aload_n 1, 1) := by decide +kernel
theorem dX3_copy_5 : decode cX3_copy 5 = .ok (.getfield 14, 3) := by decide +kernel
theorem dX3_copy_8 : decode cX3_copy 8 = .ok (.invokevirtual 47, 3) := by decide +kernel
theorem dX3_copy_11 : decode cX3_copy 11 = .ok (.return_, 1) := by decide +kernel
theorem dX4_init_0 : decode cX4_init 0 = .ok (.aload_n 0, 1) := by decide +kernel
theorem dX4_init_1 : decode cX4_init 1 = .ok (.invokespecial 3, 3) := by decide +kernel
theorem dX4_init_4 : decode cX4_init 4 = .ok (.return_, 1) := by decide +kernel
theorem dX4_sinks_0 : decode cX4_sinks 0 = .ok (.aload_n 0, 1) := by decide +kernel
theorem dX4_sinks_1 : decode cX4_sinks 1 = .ok (.getfield 9, 3) := by decide +kernel
theorem dX4_sinks_4 : decode cX4_sinks 4 = .ok (.tableswitch 97 1 5 #[36, 46, 53, 66, 86], 36) := by decide +kernel
theorem dX4_sinks_40 : decode cX4_sinks 40 = .ok (.aload_n 0, 1) := by decide +kernel
theorem dX4_sinks_41 : decode cX4_sinks 41 = .ok (.getfield 15, 3) := by decide +kernel
theorem dX4_sinks_44 : decode cX4_sinks 44 = .ok (.aload_n 0, 1) := by decide +kernel
theorem dX4_sinks_45 : decode cX4_sinks 45 = .ok (.getfield 18, 3) := by decide +kernel
theorem dX4_sinks_48 : decode cX4_sinks 48 = .ok (.iadd, 1) := by decide +kernel
theorem dX4_sinks_49 : decode cX4_sinks 49 = .ok (.ireturn, 1) := by decide +kernel
theorem dX4_sinks_50 : decode cX4_sinks 50 = .ok (.aload_n 0, 1) := by decide +kernel
theorem dX4_sinks_51 : decode cX4_sinks 51 = .ok (.getfield 15, 3) := by decide +kernel
theorem dX4_sinks_54 : decode cX4_sinks 54 = .ok (.iconst 2, 1) := by decide +kernel
theorem dX4_sinks_55 : decode cX4_sinks 55 = .ok (.idiv, 1) := by decide +kernel
theorem dX4_sinks_56 : decode cX4_sinks 56 = .ok (.ireturn, 1) := by decide +kernel
theorem dX4_sinks_57 : decode cX4_sinks 57 = .ok (.aload_n 0, 1) := by decide +kernel
theorem dX4_sinks_58 : decode cX4_sinks 58 = .ok (.getfield 15, 3) := by decide +kernel
theorem dX4_sinks_61 : decode cX4_sinks 61 = .ok (.bipush 9, 2) := by decide +kernel
theorem dX4_sinks_63 : decode cX4_sinks 63 = .ok (.iadd, 1) := by decide +kernel
theorem dX4_sinks_64 : decode cX4_sinks 64 = .ok (.aload_n 0, 1) := by decide +kernel
theorem dX4_sinks_65 : decode cX4_sinks 65 = .ok (.getfield 21, 3) := by decide +kernel
theorem dX4_sinks_68 : decode cX4_sinks 68 = .ok (.isub, 1) := by decide +kernel
theorem dX4_sinks_69 : decode cX4_sinks 69 = .ok (.ireturn, 1) := by decide +kernel
theorem dX4_sinks_70 : decode cX4_sinks 70 = .ok (.iload_n 1, 1) := by decide +kernel
theorem dX4_sinks_71 : decode cX4_sinks 71 = .ok (.iconst 2, 1) := by decide +kernel
theorem dX4_sinks_72 : decode cX4_sinks 72 = .ok (.irem, 1) := by decide +kernel
theorem dX4_sinks_73 : decode cX4_sinks 73 = .ok (.ifCond .ne 15, 3) := by decide +kernel
theorem dX4_sinks_76 : decode cX4_sinks 76 = .ok (.aload_n 0, 1) := by decide +kernel
theorem dX4_sinks_77 : decode cX4_sinks 77 = .ok (.getfield 15, 3) := by decide +kernel
theorem dX4_sinks_80 : decode cX4_sinks 80 = .ok (.aload_n 0, 1) := by decide +kernel
theorem dX4_sinks_81 : decode cX4_sinks 81 = .ok (.getfield 18, 3) := by decide +kernel
theorem dX4_sinks_84 : decode cX4_sinks 84 = .ok (.iadd, 1) := by decide +kernel
theorem dX4_sinks_85 : decode cX4_sinks 85 = .ok (.goto 4, 3) := by decide +kernel
theorem dX4_sinks_88 : decode cX4_sinks 88 = .ok (.iconst 0, 1) := by decide +kernel
theorem dX4_sinks_89 : decode cX4_sinks 89 = .ok (.ireturn, 1) := by decide +kernel
theorem dX4_sinks_90 : decode cX4_sinks 90 = .ok (.aload_n 0, 1) := by decide +kernel
theorem dX4_sinks_91 : decode cX4_sinks 91 = .ok (.getfield 15, 3) := by decide +kernel
theorem dX4_sinks_94 : decode cX4_sinks 94 = .ok (.iconst 2, 1) := by decide +kernel
theorem dX4_sinks_95 : decode cX4_sinks 95 = .ok (.idiv, 1) := by decide +kernel
theorem dX4_sinks_96 : decode cX4_sinks 96 = .ok (.iload_n 1, 1) := by decide +kernel
theorem dX4_sinks_97 : decode cX4_sinks 97 = .ok (.iconst 3, 1) := by decide +kernel
theorem dX4_sinks_98 : decode cX4_sinks 98 = .ok (.irem, 1) := by decide +kernel
theorem dX4_sinks_99 : decode cX4_sinks 99 = .ok (.iadd, 1) := by decide +kernel
theorem dX4_sinks_100 : decode cX4_sinks 100 = .ok (.ireturn, 1) := by decide +kernel
theorem dX4_sinks_101 : decode cX4_sinks 101 = .ok (.aload_n 0, 1) := by decide +kernel
theorem dX4_sinks_102 : decode cX4_sinks 102 = .ok (.getfield 15, 3) := by decide +kernel
theorem dX4_sinks_105 : decode cX4_sinks 105 = .ok (.ireturn, 1) := by decide +kernel
theorem dX4_feels_0 : decode cX4_feels 0 = .ok (.aload_n 0, 1) := by decide +kernel
theorem dX4_feels_1 : decode cX4_feels 1 = .ok (.getfield 9, 3) := by decide +kernel
theorem dX4_feels_4 : decode cX4_feels 4 = .ok (.tableswitch 87 1 6 #[40, 47, 87, 57, 70, 82], 40) := by decide +kernel
theorem dX4_feels_44 : decode cX4_feels 44 = .ok (.aload_n 0, 1) := by decide +kernel
theorem dX4_feels_45 : decode cX4_feels 45 = .ok (.getfield 21, 3) := by decide +kernel
theorem dX4_feels_48 : decode cX4_feels 48 = .ok (.iconst 2, 1) := by decide +kernel
theorem dX4_feels_49 : decode cX4_feels 49 = .ok (.idiv, 1) := by decide +kernel
theorem dX4_feels_50 : decode cX4_feels 50 = .ok (.ireturn, 1) := by decide +kernel
theorem dX4_feels_51 : decode cX4_feels 51 = .ok (.aload_n 0, 1) := by decide +kernel
theorem dX4_feels_52 : decode cX4_feels 52 = .ok (.getfield 21, 3) := by decide +kernel
theorem dX4_feels_55 : decode cX4_feels 55 = .ok (.aload_n 0, 1) := by decide +kernel
theorem dX4_feels_56 : decode cX4_feels 56 = .ok (.getfield 18, 3) := by decide +kernel
theorem dX4_feels_59 : decode cX4_feels 59 = .ok (.iadd, 1) := by decide +kernel
theorem dX4_feels_60 : decode cX4_feels 60 = .ok (.ireturn, 1) := by decide +kernel
theorem dX4_feels_61 : decode cX4_feels 61 = .ok (.iconst 0, 1) := by decide +kernel
theorem dX4_feels_62 : decode cX4_feels 62 = .ok (.aload_n 0, 1) := by decide +kernel
theorem dX4_feels_63 : decode cX4_feels 63 = .ok (.getfield 21, 3) := by decide +kernel
theorem dX4_feels_66 : decode cX4_feels 66 = .ok (.iconst 2, 1) := by decide +kernel
theorem dX4_feels_67 : decode cX4_feels 67 = .ok (.idiv, 1) := by decide +kernel
theorem dX4_feels_68 : decode cX4_feels 68 = .ok (.iconst 1, 1) := by decide +kernel
theorem dX4_feels_69 : decode cX4_feels 69 = .ok (.isub, 1) := by decide +kernel
theorem dX4_feels_70 : decode cX4_feels 70 = .ok (.invokestatic 24, 3) := by decide +kernel
theorem dX4_feels_73 : decode cX4_feels 73 = .ok (.ireturn, 1) := by decide +kernel
theorem dX4_feels_74 : decode cX4_feels 74 = .ok (.iconst 2, 1) := by decide +kernel
theorem dX4_feels_75 : decode cX4_feels 75 = .ok (.aload_n 0, 1) := by decide +kernel
theorem dX4_feels_76 : decode cX4_feels 76 = .ok (.getfield 21, 3) := by decide +kernel
theorem dX4_feels_79 : decode cX4_feels 79 = .ok (.aload_n 0, 1) := by decide +kernel
theorem dX4_feels_80 : decode cX4_feels 80 = .ok (.getfield 18, 3) := by decide +kernel
theorem dX4_feels_83 : decode cX4_feels 83 = .ok (.iadd, 1) := by decide +kernel
theorem dX4_feels_84 : decode cX4_feels 84 = .ok (.imul, 1) := by decide +kernel
theorem dX4_feels_85 : decode cX4_feels 85 = .ok (.ireturn, 1) := by decide +kernel
theorem dX4_feels_86 : decode cX4_feels 86 = .ok (.aload_n 0, 1) := by decide +kernel
theorem dX4_feels_87 : decode cX4_feels 87 = .ok (.getfield 18, 3) := by decide +kernel
theorem dX4_feels_90 : decode cX4_feels 90 = .ok (.ireturn, 1) := by decide +kernel
theorem dX4_feels_91 : decode cX4_feels 91 = .ok (.aload_n 0, 1) := by decide +kernel
theorem dX4_feels_92 : decode cX4_feels 92 = .ok (.getfield 21, 3) := by decide +kernel
theorem dX4_feels_95 : decode cX4_feels 95 = .ok (.ireturn, 1) := by decide +kernel
theorem dX4_isOf_0 : decode cX4_isOf 0 = .ok (.aload_n 0, 1) := by decide +kernel
theorem dX4_isOf_1 : decode cX4_isOf 1 = .ok (.getfield 9, 3) := by decide +kernel
theorem dX4_isOf_4 : decode cX4_isOf 4 = .ok (.istore_n 2, 1) := by decide +kernel
theorem dX4_isOf_5 : decode cX4_isOf 5 = .ok (.iconst 0, 1) := by decide +kernel
theorem dX4_isOf_6 : decode cX4_isOf 6 = .ok (.istore_n 3, 1) := by decide +kernel
theorem dX4_isOf_7 : decode cX4_isOf 7 = .ok (.iload_n 3, 1) := by decide +kernel
theorem dX4_isOf_8 : decode cX4_isOf 8 = .ok (.bipush 7, 2) := by decide +kernel
theorem dX4_isOf_10 : decode cX4_isOf 10 = .ok (.if_icmp .ge 26, 3) := by decide +kernel
theorem dX4_isOf_13 : decode cX4_isOf 13 = .ok (.iload_n 2, 1) := by decide +kernel
theorem dX4_isOf_14 : decode cX4_isOf 14 = .ok (.ifCond .lt 22, 3) := by decide +kernel
theorem dX4_isOf_17 : decode cX4_isOf 17 = .ok (.iload_n 2, 1) := by decide +kernel
theorem dX4_isOf_18 : decode cX4_isOf 18 = .ok (.iload_n 1, 1) := by decide +kernel
theorem dX4_isOf_19 : decode cX4_isOf 19 = .ok (.if_icmp .ne 5, 3) := by decide +kernel
theorem dX4_isOf_22 : decode cX4_isOf 22 = .ok (.iconst 1, 1) := by decide +kernel
theorem dX4_isOf_23 : decode cX4_isOf 23 = .ok (.ireturn, 1) := by decide +kernel
theorem dX4_isOf_24 : decode cX4_isOf 24 = .ok (.getstatic 30, 3) := by decide +kernel
theorem dX4_isOf_27 : decode cX4_isOf 27 = .ok (.iload_n 2, 1) := by decide +kernel
theorem dX4_isOf_28 : decode cX4_isOf 28 = .ok (.iaload, 1) := by decide +kernel
theorem dX4_isOf_29 : decode cX4_isOf 29 = .ok (.istore_n 2, 1) := by decide +kernel
theorem dX4_isOf_30 : decode cX4_isOf 30 = .ok (.iinc 3 1, 3) := by decide +kernel
theorem dX4_isOf_33 : decode cX4_isOf 33 = .ok (.goto (-26), 3) := by decide +kernel
theorem dX4_isOf_36 : decode cX4_isOf 36 = .ok (.iconst 0, 1) := by decide +kernel
theorem dX4_isOf_37 : decode cX4_isOf 37 = .ok (.ireturn, 1) := by decide +kernel
theorem dX4_copy_0 : decode cX4_copy 0 = .ok (.aload_n 0, 1) := by decide +kernel
theorem dX4_copy_1 : decode cX4_copy 1 = .ok (.aload_n 1, 1) := by decide +kernel
theorem dX4_copy_2 : decode cX4_copy 2 = .ok (.getfield 9, 3) := by decide +kernel
theorem dX4_copy_5 : decode cX4_copy 5 = .ok (.putfield 9, 3) := by decide +kernel
theorem dX4_copy_8 : decode cX4_copy 8 = .ok (.aload_n 0, 1) := by decide +kernel
theorem dX4_copy_9 : decode cX4_copy 9 = .ok (.aload_n 1, 1) := by decide +kernel
theorem dX4_copy_10 : decode cX4_copy 10 = .ok (.getfield 18, 3) := by decide +kernel
theorem dX4_copy_13 : decode cX4_copy 13 = .ok (.putfield 18, 3) := by decide +kernel
theorem dX4_copy_16 : decode cX4_copy 16 = .ok (.aload_n 0, 1) := by decide +kernel
theorem dX4_copy_17 : decode cX4_copy 17 = .ok (.aload_n 1, 1) := by decide +kernel
theorem dX4_copy_18 : decode cX4_copy 18 = .ok (.getfield 15, 3) := by decide +kernel
theorem dX4_copy_21 : decode cX4_copy 21 = .ok (.putfield 15, 3) := by decide +kernel
theorem dX4_copy_24 : decode cX4_copy 24 = .ok (.aload_n 0, 1) := by decide +kernel
theorem dX4_copy_25 : decode cX4_copy 25 = .ok (.aload_n 1, 1) := by decide +kernel
theorem dX4_copy_26 : decode cX4_copy 26 = .ok (.getfield 21, 3) := by decide +kernel
theorem dX4_copy_29 : decode cX4_copy 29 = .ok (.putfield 21, 3) := by decide +kernel
theorem dX4_copy_32 : decode cX4_copy 32 = .ok (.return_, 1) := by decide +kernel
theorem dX5_init_0 : decode cX5_init 0 = .ok (.aload_n 0, 1) := by decide +kernel
theorem dX5_init_1 : decode cX5_init 1 = .ok (.invokespecial 3, 3) := by decide +kernel
theorem dX5_init_4 : decode cX5_init 4 = .ok (.aload_n 0, 1) := by decide +kernel
theorem dX5_init_5 : decode cX5_init 5 = .ok (.new 9, 3) := by decide +kernel
theorem dX5_init_8 : decode cX5_init 8 = .ok (.dup, 1) := by decide +kernel
theorem dX5_init_9 : decode cX5_init 9 = .ok (.bipush 9, 2) := by decide +kernel
theorem dX5_init_11 : decode cX5_init 11 = .ok (.invokespecial 11, 3) := by decide +kernel
theorem dX5_init_14 : decode cX5_init 14 = .ok (.putfield 14, 3) := by decide +kernel
theorem dX5_init_17 : decode cX5_init 17 = .ok (.aload_n 0, 1) := by decide +kernel
theorem dX5_init_18 : decode cX5_init 18 = .ok (.new 9, 3) := by decide +kernel
theorem dX5_init_21 : decode cX5_init 21 = .ok (.dup, 1) := by decide +kernel
theorem dX5_init_22 : decode cX5_init 22 = .ok (.bipush 9, 2) := by decide +kernel
theorem dX5_init_24 : decode cX5_init 24 = .ok (.invokespecial 11, 3) := by decide +kernel
theorem dX5_init_27 : decode cX5_init 27 = .ok (.putfield 20, 3) := by decide +kernel
theorem dX5_init_30 : decode cX5_init 30 = .ok (.aload_n 0, 1) := by decide +kernel
theorem dX5_init_31 : decode cX5_init 31 = .ok (.new 9, 3) := by decide +kernel
theorem dX5_init_34 : decode cX5_init 34 = .ok (.dup, 1) := by decide +kernel
theorem dX5_init_35 : decode cX5_init 35 = .ok (.bipush 9, 2) := by decide +kernel
theorem dX5_init_37 : decode cX5_init 37 = .ok (.invokespecial 11, 3) := by decide +kernel
theorem dX5_init_40 : decode cX5_init 40 = .ok (.putfield 23, 3) := by decide +kernel
theorem dX5_init_43 : decode cX5_init 43 = .ok (.aload_n 0, 1) := by decide +kernel
theorem dX5_init_44 : decode cX5_init 44 = .ok (.bipush 81, 2) := by decide +kernel
theorem dX5_init_46 : decode cX5_init 46 = .ok (.newarray .int, 2) := by decide +kernel
theorem dX5_init_48 : decode cX5_init 48 = .ok (.putfield 26, 3) := by decide +kernel
theorem dX5_init_51 : decode cX5_init 51 = .ok (.aload_n 0, 1) := by decide +kernel
theorem dX5_init_52 : decode cX5_init 52 = .ok (.bipush 9, 2) := by decide +kernel
theorem dX5_init_54 : decode cX5_init 54 = .ok (.newarray .int, 2) := by decide +kernel
theorem dX5_init_56 : decode cX5_init 56 = .ok (.putfield 30, 3) := by decide +kernel
theorem dX5_init_59 : decode cX5_init 59 = .ok (.return_, 1) := by decide +kernel
theorem dX5_whereThen_0 : decode cX5_whereThen 0 = .ok (.aload_n 1, 1) := by decide +kernel
theorem dX5_whereThen_1 : decode cX5_whereThen 1 = .ok (.invokevirtual 33, 3) := by decide +kernel
theorem dX5_whereThen_4 : decode cX5_whereThen 4 = .ok (.aload_n 0, 1) := by decide +kernel
theorem dX5_whereThen_5 : decode cX5_whereThen 5 = .ok (.getfield 23, 3) := by decide +kernel
theorem dX5_whereThen_8 : decode cX5_whereThen 8 = .ok (.aload_n 1, 1) := by decide +kernel
theorem dX5_whereThen_9 : decode cX5_whereThen 9 = .ok (.getfield 38, 3) := by decide +kernel
theorem dX5_whereThen_12 : decode cX5_whereThen 12 = .ok (.invokevirtual 41, 3) := by decide +kernel
theorem dX5_whereThen_15 : decode cX5_whereThen 15 = .ok (.iconst 0, 1) := by decide +kernel
theorem dX5_whereThen_16 : decode cX5_whereThen 16 = .ok (.istore 4, 2) := by decide +kernel
theorem dX5_whereThen_18 : decode cX5_whereThen 18 = .ok (.iload 4, 2) := by decide +kernel
theorem dX5_whereThen_20 : decode cX5_whereThen 20 = .ok (.iload_n 3, 1) := by decide +kernel
theorem dX5_whereThen_21 : decode cX5_whereThen 21 = .ok (.if_icmp .ge 25, 3) := by decide +kernel
theorem dX5_whereThen_24 : decode cX5_whereThen 24 = .ok (.aload_n 1, 1) := by decide +kernel
theorem dX5_whereThen_25 : decode cX5_whereThen 25 = .ok (.aload_n 0, 1) := by decide +kernel
theorem dX5_whereThen_26 : decode cX5_whereThen 26 = .ok (.getfield 23, 3) := by decide +kernel
theorem dX5_whereThen_29 : decode cX5_whereThen 29 = .ok (.aload_n 1, 1) := by decide +kernel
theorem dX5_whereThen_30 : decode cX5_whereThen 30 = .ok (.getfield 45, 3) := by decide +kernel
theorem dX5_whereThen_33 : decode cX5_whereThen 33 = .ok (.iload 4, 2) := by decide +kernel
theorem dX5_whereThen_35 : decode cX5_whereThen 35 = .ok (.iadd, 1) := by decide +kernel
theorem dX5_whereThen_36 : decode cX5_whereThen 36 = .ok (.invokevirtual 49, 3) := by decide +kernel
theorem dX5_whereThen_39 : decode cX5_whereThen 39 = .ok (.pop, 1) := by decide +kernel
theorem dX5_whereThen_40 : decode cX5_whereThen 40 = .ok (.iinc 4 1, 3) := by decide +kernel
theorem dX5_whereThen_43 : decode cX5_whereThen 43 = .ok (.goto (-25), 3) := by decide +kernel
theorem dX5_whereThen_46 : decode cX5_whereThen 46 = .ok (.aload_n 0, 1) := by decide +kernel
theorem dX5_whereThen_47 : decode cX5_whereThen 47 = .ok (.getfield 23, 3) := by decide +kernel
theorem dX5_whereThen_50 : decode cX5_whereThen 50 = .ok (.iload_n 2, 1) := by decide +kernel
theorem dX5_whereThen_51 : decode cX5_whereThen 51 = .ok (.invokevirtual 53, 3) := by decide +kernel
theorem dX5_whereThen_54 : decode cX5_whereThen 54 = .ok (.istore 4, 2) := by decide +kernel
theorem dX5_whereThen_56 : decode cX5_whereThen 56 = .ok (.iload 4, 2) := by decide +kernel
theorem dX5_whereThen_58 : decode cX5_whereThen 58 = .ok (.ifCond .lt 8, 3) := by decide +kernel
theorem dX5_whereThen_61 : decode cX5_whereThen 61 = .ok (.iload 4, 2) := by decide +kernel
theorem dX5_whereThen_63 : decode cX5_whereThen 63 = .ok (.goto 8, 3) := by decide +kernel
theorem dX5_whereThen_66 : decode cX5_whereThen 66 = .ok (.aload_n 1, 1) := by decide +kernel
theorem dX5_whereThen_67 : decode cX5_whereThen 67 = .ok (.iload_n 2, 1) := by decide +kernel
theorem dX5_whereThen_68 : decode cX5_whereThen 68 = .ok (.invokevirtual 57, 3) := by decide +kernel
theorem dX5_whereThen_71 : decode cX5_whereThen 71 = .ok (.ireturn, 1) := by decide +kernel
theorem dX5_stepsToSettle_0 : decode cX5_stepsToSettle 0 = .ok (.aload_n 1, 1) := by decide +kernel
theorem dX5_stepsToSettle_1 : decode cX5_stepsToSettle 1 = .ok (.invokevirtual 33, 3) := by decide +kernel
theorem dX5_stepsToSettle_4 : decode cX5_stepsToSettle 4 = .ok (.aload_n 0, 1) := by decide +kernel
theorem dX5_stepsToSettle_5 : decode cX5_stepsToSettle 5 = .ok (.getfield 23, 3) := by decide +kernel
theorem dX5_stepsToSettle_8 : decode cX5_stepsToSettle 8 = .ok (.aload_n 1, 1) := by decide +kernel
theorem dX5_stepsToSettle_9 : decode cX5_stepsToSettle 9 = .ok (.getfield 38, 3) := by decide +kernel
theorem dX5_stepsToSettle_12 : decode cX5_stepsToSettle 12 = .ok (.invokevirtual 41, 3) := by decide +kernel
theorem dX5_stepsToSettle_15 : decode cX5_stepsToSettle 15 = .ok (.iconst 0, 1) := by decide +kernel
theorem dX5_stepsToSettle_16 : decode cX5_stepsToSettle 16 = .ok (.istore_n 2, 1) := by decide +kernel
theorem dX5_stepsToSettle_17 : decode cX5_stepsToSettle 17 = .ok (.iload_n 2, 1) := by decide +kernel
theorem dX5_stepsToSettle_18 : decode cX5_stepsToSettle 18 = .ok (.bipush 99, 2) := by decide +kernel
theorem dX5_stepsToSettle_20 : decode cX5_stepsToSettle 20 = .ok (.if_icmp .gt 28, 3) := by decide +kernel
theorem dX5_stepsToSettle_23 : decode cX5_stepsToSettle 23 = .ok (.aload_n 1, 1) := by decide +kernel
theorem dX5_stepsToSettle_24 : decode cX5_stepsToSettle 24 = .ok (.aload_n 0, 1) := by decide +kernel
theorem dX5_stepsToSettle_25 : decode cX5_stepsToSettle 25 = .ok (.getfield 23, 3) := by decide +kernel
theorem dX5_stepsToSettle_28 : decode cX5_stepsToSettle 28 = .ok (.aload_n 1, 1) := by decide +kernel
theorem dX5_stepsToSettle_29 : decode cX5_stepsToSettle 29 = .ok (.getfield 45, 3) := by decide +kernel
theorem dX5_stepsToSettle_32 : decode cX5_stepsToSettle 32 = .ok (.iload_n 2, 1) := by decide +kernel
theorem dX5_stepsToSettle_33 : decode cX5_stepsToSettle 33 = .ok (.iadd, 1) := by decide +kernel
theorem dX5_stepsToSettle_34 : decode cX5_stepsToSettle 34 = .ok (.invokevirtual 49, 3) := by decide +kernel
theorem dX5_stepsToSettle_37 : decode cX5_stepsToSettle 37 = .ok (.ifCond .ne 5, 3) := by decide +kernel
theorem dX5_stepsToSettle_40 : decode cX5_stepsToSettle 40 = .ok (.iload_n 2, 1) := by decide +kernel
theorem dX5_stepsToSettle_41 : decode cX5_stepsToSettle 41 = .ok (.ireturn, 1) := by decide +kernel
theorem dX5_stepsToSettle_42 : decode cX5_stepsToSettle 42 = .ok (.iinc 2 1, 3) := by decide +kernel
theorem dX5_stepsToSettle_45 : decode cX5_stepsToSettle 45 = .ok (.goto (-28), 3) := by decide +kernel
theorem dX5_stepsToSettle_48 : decode cX5_stepsToSettle 48 = .ok (.iconst (-1), 1) := by decide +kernel
theorem dX5_stepsToSettle_49 : decode cX5_stepsToSettle 49 = .ok (.ireturn, 1) := by decide +kernel
theorem dX5_stepsToBe_0 : decode cX5_stepsToBe 0 = .ok (.aload_n 2, 1) := by decide +kernel
theorem dX5_stepsToBe_1 : decode cX5_stepsToBe 1 = .ok (.getfield 60, 3) := by decide +kernel
theorem dX5_stepsToBe_4 : decode cX5_stepsToBe 4 = .ok (.aload_n 1, 1) := by decide +kernel
theorem dX5_stepsToBe_5 : decode cX5_stepsToBe 5 = .ok (.getfield 38, 3) := by decide +kernel
theorem dX5_stepsToBe_8 : decode cX5_stepsToBe 8 = .ok (.getfield 60, 3) := by decide +kernel
theorem dX5_stepsToBe_11 : decode cX5_stepsToBe 11 = .ok (.if_icmp .eq 5, 3) := by decide +kernel
theorem dX5_stepsToBe_14 : decode cX5_stepsToBe 14 = .ok (.iconst (-1), 1) := by decide +kernel
theorem dX5_stepsToBe_15 : decode cX5_stepsToBe 15 = .ok (.ireturn, 1) := by decide +kernel
theorem dX5_stepsToBe_16 : decode cX5_stepsToBe 16 = .ok (.aload_n 1, 1) := by decide +kernel
theorem dX5_stepsToBe_17 : decode cX5_stepsToBe 17 = .ok (.invokevirtual 33, 3) := by decide +kernel
theorem dX5_stepsToBe_20 : decode cX5_stepsToBe 20 = .ok (.aload_n 0, 1) := by decide +kernel
theorem dX5_stepsToBe_21 : decode cX5_stepsToBe 21 = .ok (.getfield 23, 3) := by decide +kernel
theorem dX5_stepsToBe_24 : decode cX5_stepsToBe 24 = .ok (.aload_n 1, 1) := by decide +kernel
theorem dX5_stepsToBe_25 : decode cX5_stepsToBe 25 = .ok (.getfield 38, 3) := by decide +kernel
theorem dX5_stepsToBe_28 : decode cX5_stepsToBe 28 = .ok (.invokevirtual 41, 3) := by decide +kernel
theorem dX5_stepsToBe_31 : decode cX5_stepsToBe 31 = .ok (.iconst 0, 1) := by decide +kernel
theorem dX5_stepsToBe_32 : decode cX5_stepsToBe 32 = .ok (.istore_n 3, 1) := by decide +kernel
theorem dX5_stepsToBe_33 : decode cX5_stepsToBe 33 = .ok (.iload_n 3, 1) := by decide +kernel
theorem dX5_stepsToBe_34 : decode cX5_stepsToBe 34 = .ok (.bipush 99, 2) := by decide +kernel
theorem dX5_stepsToBe_36 : decode cX5_stepsToBe 36 = .ok (.if_icmp .gt 44, 3) := by decide +kernel
theorem dX5_stepsToBe_39 : decode cX5_stepsToBe 39 = .ok (.aload_n 2, 1) := by decide +kernel
theorem dX5_stepsToBe_40 : decode cX5_stepsToBe 40 = .ok (.aload_n 0, 1) := by decide +kernel
theorem dX5_stepsToBe_41 : decode cX5_stepsToBe 41 = .ok (.getfield 23, 3) := by decide +kernel
theorem dX5_stepsToBe_44 : decode cX5_stepsToBe 44 = .ok (.invokevirtual 63, 3) := by decide +kernel
theorem dX5_stepsToBe_47 : decode cX5_stepsToBe 47 = .ok (.aload_n 0, 1) := by decide +kernel
theorem dX5_stepsToBe_48 : decode cX5_stepsToBe 48 = .ok (.getfield 23, 3) := by decide +kernel
theorem dX5_stepsToBe_51 : decode cX5_stepsToBe 51 = .ok (.getfield 60, 3) := by decide +kernel
theorem dX5_stepsToBe_54 : decode cX5_stepsToBe 54 = .ok (.if_icmp .ne 5, 3) := by decide +kernel
theorem dX5_stepsToBe_57 : decode cX5_stepsToBe 57 = .ok (.iload_n 3, 1) := by decide +kernel
theorem dX5_stepsToBe_58 : decode cX5_stepsToBe 58 = .ok (.ireturn, 1) := by decide +kernel
theorem dX5_stepsToBe_59 : decode cX5_stepsToBe 59 = .ok (.aload_n 1, 1) := by decide +kernel
theorem dX5_stepsToBe_60 : decode cX5_stepsToBe 60 = .ok (.aload_n 0, 1) := by decide +kernel
theorem dX5_stepsToBe_61 : decode cX5_stepsToBe 61 = .ok (.getfield 23, 3) := by decide +kernel
theorem dX5_stepsToBe_64 : decode cX5_stepsToBe 64 = .ok (.aload_n 1, 1) := by decide +kernel
theorem dX5_stepsToBe_65 : decode cX5_stepsToBe 65 = .ok (.getfield 45, 3) := by decide +kernel
theorem dX5_stepsToBe_68 : decode cX5_stepsToBe 68 = .ok (.iload_n 3, 1) := by decide +kernel
theorem dX5_stepsToBe_69 : decode cX5_stepsToBe 69 = .ok (.iadd, 1) := by decide +kernel
theorem dX5_stepsToBe_70 : decode cX5_stepsToBe 70 = .ok (.invokevirtual 49, 3) := by decide +kernel
theorem dX5_stepsToBe_73 : decode cX5_stepsToBe 73 = .ok (.pop, 1) := by decide +kernel
theorem dX5_stepsToBe_74 : decode cX5_stepsToBe 74 = .ok (.iinc 3 1, 3) := by decide +kernel
theorem dX5_stepsToBe_77 : decode cX5_stepsToBe 77 = .ok (.goto (-44), 3) := by decide +kernel
theorem dX5_stepsToBe_80 : decode cX5_stepsToBe 80 = .ok (.iconst (-1), 1) := by decide +kernel
theorem dX5_stepsToBe_81 : decode cX5_stepsToBe 81 = .ok (.ireturn, 1) := by decide +kernel
theorem dX5_packFor_0 : decode cX5_packFor 0 = .ok (.aload_n 1, 1) := by decide +kernel
theorem dX5_packFor_1 : decode cX5_packFor 1 = .ok (.invokevirtual 33, 3) := by decide +kernel
theorem dX5_packFor_4 : decode cX5_packFor 4 = .ok (.aload_n 0, 1) := by decide +kernel
theorem dX5_packFor_5 : decode cX5_packFor 5 = .ok (.aload_n 1, 1) := by decide +kernel
theorem dX5_packFor_6 : decode cX5_packFor 6 = .ok (.invokevirtual 67, 3) := by decide +kernel
theorem dX5_packFor_9 : decode cX5_packFor 9 = .ok (.aload_n 0, 1) := by decide +kernel
theorem dX5_packFor_10 : decode cX5_packFor 10 = .ok (.getfield 20, 3) := by decide +kernel
theorem dX5_packFor_13 : decode cX5_packFor 13 = .ok (.iconst 0, 1) := by decide +kernel
theorem dX5_packFor_14 : decode cX5_packFor 14 = .ok (.putfield 60, 3) := by decide +kernel
theorem dX5_packFor_17 : decode cX5_packFor 17 = .ok (.iconst 0, 1) := by decide +kernel
theorem dX5_packFor_18 : decode cX5_packFor 18 = .ok (.istore_n 3, 1) := by decide +kernel
theorem dX5_packFor_19 : decode cX5_packFor 19 = .ok (.iload_n 3, 1) := by decide +kernel
theorem dX5_packFor_20 : decode cX5_packFor 20 = .ok (.aload_n 1, 1) := by decide +kernel
theorem dX5_packFor_21 : decode cX5_packFor 21 = .ok (.getfield 71, 3) := by decide +kernel
theorem dX5_packFor_24 : decode cX5_packFor 24 = .ok (.if_icmp .ge 28, 3) := by decide +kernel
theorem dX5_packFor_27 : decode cX5_packFor 27 = .ok (.aload_n 1, 1) := by decide +kernel
theorem dX5_packFor_28 : decode cX5_packFor 28 = .ok (.getfield 38, 3) := by decide +kernel
theorem dX5_packFor_31 : decode cX5_packFor 31 = .ok (.iload_n 3, 1) := by decide +kernel
theorem dX5_packFor_32 : decode cX5_packFor 32 = .ok (.invokevirtual 53, 3) := by decide +kernel
theorem dX5_packFor_35 : decode cX5_packFor 35 = .ok (.ifCond .lt 11, 3) := by decide +kernel
theorem dX5_packFor_38 : decode cX5_packFor 38 = .ok (.aload_n 0, 1) := by decide +kernel
theorem dX5_packFor_39 : decode cX5_packFor 39 = .ok (.getfield 20, 3) := by decide +kernel
theorem dX5_packFor_42 : decode cX5_packFor 42 = .ok (.iload_n 3, 1) := by decide +kernel
theorem dX5_packFor_43 : decode cX5_packFor 43 = .ok (.invokevirtual 74, 3) := by decide +kernel
theorem dX5_packFor_46 : decode cX5_packFor 46 = .ok (.iinc 3 1, 3) := by decide +kernel
theorem dX5_packFor_49 : decode cX5_packFor 49 = .ok (.goto (-30), 3) := by decide +kernel
theorem dX5_packFor_52 : decode cX5_packFor 52 = .ok (.ldc 79, 2) := by decide +kernel
theorem dX5_packFor_54 : decode cX5_packFor 54 = .ok (.istore_n 3, 1) := by decide +kernel
theorem dX5_packFor_55 : decode cX5_packFor 55 = .ok (.iconst 0, 1) := by decide +kernel
theorem dX5_packFor_56 : decode cX5_packFor 56 = .ok (.istore 4, 2) := by decide +kernel
theorem dX5_packFor_58 : decode cX5_packFor 58 = .ok (.iload 4, 2) := by decide +kernel
theorem dX5_packFor_60 : decode cX5_packFor 60 = .ok (.sipush 720, 3) := by decide +kernel
theorem dX5_packFor_63 : decode cX5_packFor 63 = .ok (.if_icmp .ge 50, 3) := by decide +kernel
theorem dX5_packFor_66 : decode cX5_packFor 66 = .ok (.aload_n 0, 1) := by decide +kernel
theorem dX5_packFor_67 : decode cX5_packFor 67 = .ok (.aload_n 1, 1) := by decide +kernel
theorem dX5_packFor_68 : decode cX5_packFor 68 = .ok (.iload_n 2, 1) := by decide +kernel
theorem dX5_packFor_69 : decode cX5_packFor 69 = .ok (.invokevirtual 80, 3) := by decide +kernel
theorem dX5_packFor_72 : decode cX5_packFor 72 = .ok (.istore 5, 2) := by decide +kernel
theorem dX5_packFor_74 : decode cX5_packFor 74 = .ok (.iload 5, 2) := by decide +kernel
theorem dX5_packFor_76 : decode cX5_packFor 76 = .ok (.iload_n 3, 1) := by decide +kernel
theorem dX5_packFor_77 : decode cX5_packFor 77 = .ok (.if_icmp .ge 17, 3) := by decide +kernel
theorem dX5_packFor_80 : decode cX5_packFor 80 = .ok (.iload 5, 2) := by decide +kernel
theorem dX5_packFor_82 : decode cX5_packFor 82 = .ok (.istore_n 3, 1) := by decide +kernel
theorem dX5_packFor_83 : decode cX5_packFor 83 = .ok (.aload_n 0, 1) := by decide +kernel
theorem dX5_packFor_84 : decode cX5_packFor 84 = .ok (.getfield 14, 3) := by decide +kernel
theorem dX5_packFor_87 : decode cX5_packFor 87 = .ok (.aload_n 0, 1) := by decide +kernel
theorem dX5_packFor_88 : decode cX5_packFor 88 = .ok (.getfield 20, 3) := by decide +kernel
theorem dX5_packFor_91 : decode cX5_packFor 91 = .ok (.invokevirtual 41, 3) := by decide +kernel
theorem dX5_packFor_94 : decode cX5_packFor 94 = .ok (.aload_n 0, 1) := by decide +kernel
theorem dX5_packFor_95 : decode cX5_packFor 95 = .ok (.getfield 20, 3) := by decide +kernel
theorem dX5_packFor_98 : decode cX5_packFor 98 = .ok (.invokevirtual 84, 3) := by decide +kernel
theorem dX5_packFor_101 : decode cX5_packFor 101 = .ok (.ifCond .ne 6, 3) := by decide +kernel
theorem dX5_packFor_104 : decode cX5_packFor 104 = .ok (.goto 9, 3) := by decide +kernel
theorem dX5_packFor_107 : decode cX5_packFor 107 = .ok (.iinc 4 1, 3) := by decide +kernel
theorem dX5_packFor_110 : decode cX5_packFor 110 = .ok (.goto (-52), 3) := by decide +kernel
theorem dX5_packFor_113 : decode cX5_packFor 113 = .ok (.iload_n 3, 1) := by decide +kernel
theorem dX5_packFor_114 : decode cX5_packFor 114 = .ok (.ireturn, 1) := by decide +kernel
theorem dX5_costOfStart_0 : decode cX5_costOfStart 0 = .ok (.aload_n 0, 1) := by decide +kernel
theorem dX5_costOfStart_1 : decode cX5_costOfStart 1 = .ok (.getfield 23, 3) := by decide +kernel
theorem dX5_costOfStart_4 : decode cX5_costOfStart 4 = .ok (.aload_n 0, 1) := by decide +kernel
theorem dX5_costOfStart_5 : decode cX5_costOfStart 5 = .ok (.getfield 20, 3) := by decide +kernel
theorem dX5_costOfStart_8 : decode cX5_costOfStart 8 = .ok (.invokevirtual 41, 3) := by decide +kernel
theorem dX5_costOfStart_11 : decode cX5_costOfStart 11 = .ok (.iconst 0, 1) := by decide +kernel
theorem dX5_costOfStart_12 : decode cX5_costOfStart 12 = .ok (.istore_n 3, 1) := by decide +kernel
theorem dX5_costOfStart_13 : decode cX5_costOfStart 13 = .ok (.iload_n 3, 1) := by decide +kernel
theorem dX5_costOfStart_14 : decode cX5_costOfStart 14 = .ok (.iload_n 2, 1) := by decide +kernel
theorem dX5_costOfStart_15 : decode cX5_costOfStart 15 = .ok (.if_icmp .ge 24, 3) := by decide +kernel
theorem dX5_costOfStart_18 : decode cX5_costOfStart 18 = .ok (.aload_n 1, 1) := by decide +kernel
theorem dX5_costOfStart_19 : decode cX5_costOfStart 19 = .ok (.aload_n 0, 1) := by decide +kernel
theorem dX5_costOfStart_20 : decode cX5_costOfStart 20 = .ok (.getfield 23, 3) := by decide +kernel
theorem dX5_costOfStart_23 : decode cX5_costOfStart 23 = .ok (.aload_n 1, 1) := by decide +kernel
theorem dX5_costOfStart_24 : decode cX5_costOfStart 24 = .ok (.getfield 45, 3) := by decide +kernel
theorem dX5_costOfStart_27 : decode cX5_costOfStart 27 = .ok (.iload_n 3, 1) := by decide +kernel
theorem dX5_costOfStart_28 : decode cX5_costOfStart 28 = .ok (.iadd, 1) := by decide +kernel
theorem dX5_costOfStart_29 : decode cX5_costOfStart 29 = .ok (.invokevirtual 49, 3) := by decide +kernel
theorem dX5_costOfStart_32 : decode cX5_costOfStart 32 = .ok (.pop, 1) := by decide +kernel
theorem dX5_costOfStart_33 : decode cX5_costOfStart 33 = .ok (.iinc 3 1, 3) := by decide +kernel
theorem dX5_costOfStart_36 : decode cX5_costOfStart 36 = .ok (.goto (-23), 3) := by decide +kernel
theorem dX5_costOfStart_39 : decode cX5_costOfStart 39 = .ok (.iconst 0, 1) := by decide +kernel
theorem dX5_costOfStart_40 : decode cX5_costOfStart 40 = .ok (.istore_n 3, 1) := by decide +kernel
theorem dX5_costOfStart_41 : decode cX5_costOfStart 41 = .ok (.iconst 0, 1) := by decide +kernel
theorem dX5_costOfStart_42 : decode cX5_costOfStart 42 = .ok (.istore 4, 2) := by decide +kernel
theorem dX5_costOfStart_44 : decode cX5_costOfStart 44 = .ok (.iconst 0, 1) := by decide +kernel
theorem dX5_costOfStart_45 : decode cX5_costOfStart 45 = .ok (.istore 5, 2) := by decide +kernel
theorem dX5_costOfStart_47 : decode cX5_costOfStart 47 = .ok (.iload 5, 2) := by decide +kernel
theorem dX5_costOfStart_49 : decode cX5_costOfStart 49 = .ok (.aload_n 0, 1) := by decide +kernel
theorem dX5_costOfStart_50 : decode cX5_costOfStart 50 = .ok (.getfield 23, 3) := by decide +kernel
theorem dX5_costOfStart_53 : decode cX5_costOfStart 53 = .ok (.getfield 60, 3) := by decide +kernel
theorem dX5_costOfStart_56 : decode cX5_costOfStart 56 = .ok (.if_icmp .ge 51, 3) := by decide +kernel
theorem dX5_costOfStart_59 : decode cX5_costOfStart 59 = .ok (.aload_n 0, 1) := by decide +kernel
theorem dX5_costOfStart_60 : decode cX5_costOfStart 60 = .ok (.getfield 23, 3) := by decide +kernel
theorem dX5_costOfStart_63 : decode cX5_costOfStart 63 = .ok (.getfield 88, 3) := by decide +kernel
theorem dX5_costOfStart_66 : decode cX5_costOfStart 66 = .ok (.iload 5, 2) := by decide +kernel
theorem dX5_costOfStart_68 : decode cX5_costOfStart 68 = .ok (.iaload, 1) := by decide +kernel
theorem dX5_costOfStart_69 : decode cX5_costOfStart 69 = .ok (.istore 6, 2) := by decide +kernel
theorem dX5_costOfStart_71 : decode cX5_costOfStart 71 = .ok (.iload_n 3, 1) := by decide +kernel
theorem dX5_costOfStart_72 : decode cX5_costOfStart 72 = .ok (.aload_n 0, 1) := by decide +kernel
theorem dX5_costOfStart_73 : decode cX5_costOfStart 73 = .ok (.getfield 26, 3) := by decide +kernel
theorem dX5_costOfStart_76 : decode cX5_costOfStart 76 = .ok (.iload 6, 2) := by decide +kernel
theorem dX5_costOfStart_78 : decode cX5_costOfStart 78 = .ok (.bipush 9, 2) := by decide +kernel
theorem dX5_costOfStart_80 : decode cX5_costOfStart 80 = .ok (.imul, 1) := by decide +kernel
theorem dX5_costOfStart_81 : decode cX5_costOfStart 81 = .ok (.iload 5, 2) := by decide +kernel
theorem dX5_costOfStart_83 : decode cX5_costOfStart 83 = .ok (.iadd, 1) := by decide +kernel
theorem dX5_costOfStart_84 : decode cX5_costOfStart 84 = .ok (.iaload, 1) := by decide +kernel
theorem dX5_costOfStart_85 : decode cX5_costOfStart 85 = .ok (.iadd, 1) := by decide +kernel
theorem dX5_costOfStart_86 : decode cX5_costOfStart 86 = .ok (.istore_n 3, 1) := by decide +kernel
theorem dX5_costOfStart_87 : decode cX5_costOfStart 87 = .ok (.iload 4, 2) := by decide +kernel
theorem dX5_costOfStart_89 : decode cX5_costOfStart 89 = .ok (.aload_n 0, 1) := by decide +kernel
theorem dX5_costOfStart_90 : decode cX5_costOfStart 90 = .ok (.getfield 30, 3) := by decide +kernel
theorem dX5_costOfStart_93 : decode cX5_costOfStart 93 = .ok (.iload 6, 2) := by decide +kernel
theorem dX5_costOfStart_95 : decode cX5_costOfStart 95 = .ok (.iaload, 1) := by decide +kernel
theorem dX5_costOfStart_96 : decode cX5_costOfStart 96 = .ok (.iload_n 3, 1) := by decide +kernel
theorem dX5_costOfStart_97 : decode cX5_costOfStart 97 = .ok (.imul, 1) := by decide +kernel
theorem dX5_costOfStart_98 : decode cX5_costOfStart 98 = .ok (.iadd, 1) := by decide +kernel
theorem dX5_costOfStart_99 : decode cX5_costOfStart 99 = .ok (.istore 4, 2) := by decide +kernel
theorem dX5_costOfStart_101 : decode cX5_costOfStart 101 = .ok (.iinc 5 1, 3) := by decide +kernel
theorem dX5_costOfStart_104 : decode cX5_costOfStart 104 = .ok (.goto (-57), 3) := by decide +kernel
theorem dX5_costOfStart_107 : decode cX5_costOfStart 107 = .ok (.iload 4, 2) := by decide +kernel
theorem dX5_costOfStart_109 : decode cX5_costOfStart 109 = .ok (.ireturn, 1) := by decide +kernel
theorem dX5_learnUses_0 : decode cX5_learnUses 0 = .ok (.iconst 0, 1) := by decide +kernel
theorem dX5_learnUses_1 : decode cX5_learnUses 1 = .ok (.istore_n 2, 1) := by decide +kernel
theorem dX5_learnUses_2 : decode cX5_learnUses 2 = .ok (.iload_n 2, 1) := by decide +kernel
theorem dX5_learnUses_3 : decode cX5_learnUses 3 = .ok (.aload_n 1, 1) := by decide +kernel
theorem dX5_learnUses_4 : decode cX5_learnUses 4 = .ok (.getfield 71, 3) := by decide +kernel
theorem dX5_learnUses_7 : decode cX5_learnUses 7 = .ok (.if_icmp .ge 75, 3) := by decide +kernel
theorem dX5_learnUses_10 : decode cX5_learnUses 10 = .ok (.aload_n 1, 1) := by decide +kernel
theorem dX5_learnUses_11 : decode cX5_learnUses 11 = .ok (.getfield 91, 3) := by decide +kernel
theorem dX5_learnUses_14 : decode cX5_learnUses 14 = .ok (.iload_n 2, 1) := by decide +kernel
theorem dX5_learnUses_15 : decode cX5_learnUses 15 = .ok (.aaload, 1) := by decide +kernel
theorem dX5_learnUses_16 : decode cX5_learnUses 16 = .ok (.astore_n 3, 1) := by decide +kernel
theorem dX5_learnUses_17 : decode cX5_learnUses 17 = .ok (.aload_n 0, 1) := by decide +kernel
theorem dX5_learnUses_18 : decode cX5_learnUses 18 = .ok (.getfield 30, 3) := by decide +kernel
theorem dX5_learnUses_21 : decode cX5_learnUses 21 = .ok (.iload_n 2, 1) := by decide +kernel
theorem dX5_learnUses_22 : decode cX5_learnUses 22 = .ok (.aload_n 1, 1) := by decide +kernel
theorem dX5_learnUses_23 : decode cX5_learnUses 23 = .ok (.iload_n 2, 1) := by decide +kernel
theorem dX5_learnUses_24 : decode cX5_learnUses 24 = .ok (.invokevirtual 95, 3) := by decide +kernel
theorem dX5_learnUses_27 : decode cX5_learnUses 27 = .ok (.iastore, 1) := by decide +kernel
theorem dX5_learnUses_28 : decode cX5_learnUses 28 = .ok (.iconst 0, 1) := by decide +kernel
theorem dX5_learnUses_29 : decode cX5_learnUses 29 = .ok (.istore 4, 2) := by decide +kernel
theorem dX5_learnUses_31 : decode cX5_learnUses 31 = .ok (.iload 4, 2) := by decide +kernel
theorem dX5_learnUses_33 : decode cX5_learnUses 33 = .ok (.aload_n 1, 1) := by decide +kernel
theorem dX5_learnUses_34 : decode cX5_learnUses 34 = .ok (.getfield 38, 3) := by decide +kernel
theorem dX5_learnUses_37 : decode cX5_learnUses 37 = .ok (.getfield 60, 3) := by decide +kernel
theorem dX5_learnUses_40 : decode cX5_learnUses 40 = .ok (.if_icmp .ge 36, 3) := by decide +kernel
theorem dX5_learnUses_43 : decode cX5_learnUses 43 = .ok (.aload_n 0, 1) := by decide +kernel
theorem dX5_learnUses_44 : decode cX5_learnUses 44 = .ok (.getfield 26, 3) := by decide +kernel
theorem dX5_learnUses_47 : decode cX5_learnUses 47 = .ok (.iload_n 2, 1) := by decide +kernel
theorem dX5_learnUses_48 : decode cX5_learnUses 48 = .ok (.bipush 9, 2) := by decide +kernel
theorem dX5_learnUses_50 : decode cX5_learnUses 50 = .ok (.imul, 1) := by decide +kernel
theorem dX5_learnUses_51 : decode cX5_learnUses 51 = .ok (.iload 4, 2) := by decide +kernel
theorem dX5_learnUses_53 : decode cX5_learnUses 53 = .ok (.iadd, 1) := by decide +kernel
theorem dX5_learnUses_54 : decode cX5_learnUses 54 = .ok (.aload_n 1, 1) := by decide +kernel
theorem dX5_learnUses_55 : decode cX5_learnUses 55 = .ok (.iconst 0, 1) := by decide +kernel
theorem dX5_learnUses_56 : decode cX5_learnUses 56 = .ok (.aload_n 3, 1) := by decide +kernel
theorem dX5_learnUses_57 : decode cX5_learnUses 57 = .ok (.invokevirtual 98, 3) := by decide +kernel
theorem dX5_learnUses_60 : decode cX5_learnUses 60 = .ok (.iload 4, 2) := by decide +kernel
theorem dX5_learnUses_62 : decode cX5_learnUses 62 = .ok (.aload_n 3, 1) := by decide +kernel
theorem dX5_learnUses_63 : decode cX5_learnUses 63 = .ok (.getfield 104, 3) := by decide +kernel
theorem dX5_learnUses_66 : decode cX5_learnUses 66 = .ok (.invokevirtual 107, 3) := by decide +kernel
theorem dX5_learnUses_69 : decode cX5_learnUses 69 = .ok (.iastore, 1) := by decide +kernel
theorem dX5_learnUses_70 : decode cX5_learnUses 70 = .ok (.iinc 4 1, 3) := by decide +kernel
theorem dX5_learnUses_73 : decode cX5_learnUses 73 = .ok (.goto (-42), 3) := by decide +kernel
theorem dX5_learnUses_76 : decode cX5_learnUses 76 = .ok (.iinc 2 1, 3) := by decide +kernel
theorem dX5_learnUses_79 : decode cX5_learnUses 79 = .ok (.goto (-77), 3) := by decide +kernel
theorem dX5_learnUses_82 : decode cX5_learnUses 82 = .ok (.return_, 1) := by decide +kernel
theorem dX5_setLeftOut_0 : decode cX5_setLeftOut 0 = .ok (.aload_n 0, 1) := by decide +kernel
theorem dX5_setLeftOut_1 : decode cX5_setLeftOut 1 = .ok (.aload_n 1, 1) := by decide +kernel
theorem dX5_setLeftOut_2 : decode cX5_setLeftOut 2 = .ok (.invokevirtual 67, 3) := by decide +kernel
theorem dX5_setLeftOut_5 : decode cX5_setLeftOut 5 = .ok (.iconst 0, 1) := by decide +kernel
theorem dX5_setLeftOut_6 : decode cX5_setLeftOut 6 = .ok (.istore 4, 2) := by decide +kernel
theorem dX5_setLeftOut_8 : decode cX5_setLeftOut 8 = .ok (.iconst 0, 1) := by decide +kernel
theorem dX5_setLeftOut_9 : decode cX5_setLeftOut 9 = .ok (.istore 5, 2) := by decide +kernel
theorem dX5_setLeftOut_11 : decode cX5_setLeftOut 11 = .ok (.iload 5, 2) := by decide +kernel
theorem dX5_setLeftOut_13 : decode cX5_setLeftOut 13 = .ok (.aload_n 1, 1) := by decide +kernel
theorem dX5_setLeftOut_14 : decode cX5_setLeftOut 14 = .ok (.getfield 38, 3) := by decide +kernel
theorem dX5_setLeftOut_17 : decode cX5_setLeftOut 17 = .ok (.getfield 60, 3) := by decide +kernel
theorem dX5_setLeftOut_20 : decode cX5_setLeftOut 20 = .ok (.if_icmp .ge 26, 3) := by decide +kernel
theorem dX5_setLeftOut_23 : decode cX5_setLeftOut 23 = .ok (.iload 4, 2) := by decide +kernel
theorem dX5_setLeftOut_25 : decode cX5_setLeftOut 25 = .ok (.iconst 1, 1) := by decide +kernel
theorem dX5_setLeftOut_26 : decode cX5_setLeftOut 26 = .ok (.aload_n 1, 1) := by decide +kernel
theorem dX5_setLeftOut_27 : decode cX5_setLeftOut 27 = .ok (.getfield 38, 3) := by decide +kernel
theorem dX5_setLeftOut_30 : decode cX5_setLeftOut 30 = .ok (.getfield 88, 3) := by decide +kernel
theorem dX5_setLeftOut_33 : decode cX5_setLeftOut 33 = .ok (.iload 5, 2) := by decide +kernel
theorem dX5_setLeftOut_35 : decode cX5_setLeftOut 35 = .ok (.iaload, 1) := by decide +kernel
theorem dX5_setLeftOut_36 : decode cX5_setLeftOut 36 = .ok (.ishl, 1) := by decide +kernel
theorem dX5_setLeftOut_37 : decode cX5_setLeftOut 37 = .ok (.ior, 1) := by decide +kernel
theorem dX5_setLeftOut_38 : decode cX5_setLeftOut 38 = .ok (.istore 4, 2) := by decide +kernel
theorem dX5_setLeftOut_40 : decode cX5_setLeftOut 40 = .ok (.iinc 5 1, 3) := by decide +kernel
theorem dX5_setLeftOut_43 : decode cX5_setLeftOut 43 = .ok (.goto (-32), 3) := by decide +kernel
theorem dX5_setLeftOut_46 : decode cX5_setLeftOut 46 = .ok (.iload 4, 2) := by decide +kernel
theorem dX5_setLeftOut_48 : decode cX5_setLeftOut 48 = .ok (.iconst 1, 1) := by decide +kernel
theorem dX5_setLeftOut_49 : decode cX5_setLeftOut 49 = .ok (.iload_n 2, 1) := by decide +kernel
theorem dX5_setLeftOut_50 : decode cX5_setLeftOut 50 = .ok (.ishl, 1) := by decide +kernel
theorem dX5_setLeftOut_51 : decode cX5_setLeftOut 51 = .ok (.iconst (-1), 1) := by decide +kernel
theorem dX5_setLeftOut_52 : decode cX5_setLeftOut 52 = .ok (.ixor, 1) := by decide +kernel
theorem dX5_setLeftOut_53 : decode cX5_setLeftOut 53 = .ok (.iand, 1) := by decide +kernel
theorem dX5_setLeftOut_54 : decode cX5_setLeftOut 54 = .ok (.istore 4, 2) := by decide +kernel
theorem dX5_setLeftOut_56 : decode cX5_setLeftOut 56 = .ok (.iconst (-1), 1) := by decide +kernel
theorem dX5_setLeftOut_57 : decode cX5_setLeftOut 57 = .ok (.istore 5, 2) := by decide +kernel
theorem dX5_setLeftOut_59 : decode cX5_setLeftOut 59 = .ok (.bipush 9, 2) := by decide +kernel
theorem dX5_setLeftOut_61 : decode cX5_setLeftOut 61 = .ok (.istore 6, 2) := by decide +kernel
theorem dX5_setLeftOut_63 : decode cX5_setLeftOut 63 = .ok (.iconst 0, 1) := by decide +kernel
theorem dX5_setLeftOut_64 : decode cX5_setLeftOut 64 = .ok (.istore 7, 2) := by decide +kernel
theorem dX5_setLeftOut_66 : decode cX5_setLeftOut 66 = .ok (.iload 7, 2) := by decide +kernel
theorem dX5_setLeftOut_68 : decode cX5_setLeftOut 68 = .ok (.iload 4, 2) := by decide +kernel
theorem dX5_setLeftOut_70 : decode cX5_setLeftOut 70 = .ok (.if_icmp .gt 56, 3) := by decide +kernel
theorem dX5_setLeftOut_73 : decode cX5_setLeftOut 73 = .ok (.iload 7, 2) := by decide +kernel
theorem dX5_setLeftOut_75 : decode cX5_setLeftOut 75 = .ok (.invokestatic 111, 3) := by decide +kernel
theorem dX5_setLeftOut_78 : decode cX5_setLeftOut 78 = .ok (.istore 8, 2) := by decide +kernel
theorem dX5_setLeftOut_80 : decode cX5_setLeftOut 80 = .ok (.iload 7, 2) := by decide +kernel
theorem dX5_setLeftOut_82 : decode cX5_setLeftOut 82 = .ok (.iload 4, 2) := by decide +kernel
theorem dX5_setLeftOut_84 : decode cX5_setLeftOut 84 = .ok (.iconst (-1), 1) := by decide +kernel
theorem dX5_setLeftOut_85 : decode cX5_setLeftOut 85 = .ok (.ixor, 1) := by decide +kernel
theorem dX5_setLeftOut_86 : decode cX5_setLeftOut 86 = .ok (.iand, 1) := by decide +kernel
theorem dX5_setLeftOut_87 : decode cX5_setLeftOut 87 = .ok (.ifCond .ne 33, 3) := by decide +kernel
theorem dX5_setLeftOut_90 : decode cX5_setLeftOut 90 = .ok (.iload 8, 2) := by decide +kernel
theorem dX5_setLeftOut_92 : decode cX5_setLeftOut 92 = .ok (.iload 6, 2) := by decide +kernel
theorem dX5_setLeftOut_94 : decode cX5_setLeftOut 94 = .ok (.if_icmp .ge 26, 3) := by decide +kernel
theorem dX5_setLeftOut_97 : decode cX5_setLeftOut 97 = .ok (.aload_n 0, 1) := by decide +kernel
theorem dX5_setLeftOut_98 : decode cX5_setLeftOut 98 = .ok (.aload_n 1, 1) := by decide +kernel
theorem dX5_setLeftOut_99 : decode cX5_setLeftOut 99 = .ok (.getfield 38, 3) := by decide +kernel
theorem dX5_setLeftOut_102 : decode cX5_setLeftOut 102 = .ok (.iload_n 2, 1) := by decide +kernel
theorem dX5_setLeftOut_103 : decode cX5_setLeftOut 103 = .ok (.iload 7, 2) := by decide +kernel
theorem dX5_setLeftOut_105 : decode cX5_setLeftOut 105 = .ok (.invokevirtual 114, 3) := by decide +kernel
theorem dX5_setLeftOut_108 : decode cX5_setLeftOut 108 = .ok (.iload_n 3, 1) := by decide +kernel
theorem dX5_setLeftOut_109 : decode cX5_setLeftOut 109 = .ok (.if_icmp .gt 11, 3) := by decide +kernel
theorem dX5_setLeftOut_112 : decode cX5_setLeftOut 112 = .ok (.iload 7, 2) := by decide +kernel
theorem dX5_setLeftOut_114 : decode cX5_setLeftOut 114 = .ok (.istore 5, 2) := by decide +kernel
theorem dX5_setLeftOut_116 : decode cX5_setLeftOut 116 = .ok (.iload 8, 2) := by decide +kernel
theorem dX5_setLeftOut_118 : decode cX5_setLeftOut 118 = .ok (.istore 6, 2) := by decide +kernel
theorem dX5_setLeftOut_120 : decode cX5_setLeftOut 120 = .ok (.iinc 7 1, 3) := by decide +kernel
theorem dX5_setLeftOut_123 : decode cX5_setLeftOut 123 = .ok (.goto (-57), 3) := by decide +kernel
theorem dX5_setLeftOut_126 : decode cX5_setLeftOut 126 = .ok (.iload 5, 2) := by decide +kernel
theorem dX5_setLeftOut_128 : decode cX5_setLeftOut 128 = .ok (.ireturn, 1) := by decide +kernel
theorem dX5_timeWithout_0 : decode cX5_timeWithout 0 = .ok (.iconst 0, 1) := by decide +kernel
theorem dX5_timeWithout_1 : decode cX5_timeWithout 1 = .ok (.istore 4, 2) := by decide +kernel
theorem dX5_timeWithout_3 : decode cX5_timeWithout 3 = .ok (.iconst 0, 1) := by decide +kernel
theorem dX5_timeWithout_4 : decode cX5_timeWithout 4 = .ok (.istore 5, 2) := by decide +kernel
theorem dX5_timeWithout_6 : decode cX5_timeWithout 6 = .ok (.iconst 0, 1) := by decide +kernel
theorem dX5_timeWithout_7 : decode cX5_timeWithout 7 = .ok (.istore 6, 2) := by decide +kernel
theorem dX5_timeWithout_9 : decode cX5_timeWithout 9 = .ok (.iload 6, 2) := by decide +kernel
theorem dX5_timeWithout_11 : decode cX5_timeWithout 11 = .ok (.aload_n 1, 1) := by decide +kernel
theorem dX5_timeWithout_12 : decode cX5_timeWithout 12 = .ok (.getfield 60, 3) := by decide +kernel
theorem dX5_timeWithout_15 : decode cX5_timeWithout 15 = .ok (.if_icmp .ge 57, 3) := by decide +kernel
theorem dX5_timeWithout_18 : decode cX5_timeWithout 18 = .ok (.aload_n 1, 1) := by decide +kernel
theorem dX5_timeWithout_19 : decode cX5_timeWithout 19 = .ok (.getfield 88, 3) := by decide +kernel
theorem dX5_timeWithout_22 : decode cX5_timeWithout 22 = .ok (.iload 6, 2) := by decide +kernel
theorem dX5_timeWithout_24 : decode cX5_timeWithout 24 = .ok (.iaload, 1) := by decide +kernel
theorem dX5_timeWithout_25 : decode cX5_timeWithout 25 = .ok (.istore 7, 2) := by decide +kernel
theorem dX5_timeWithout_27 : decode cX5_timeWithout 27 = .ok (.iload_n 3, 1) := by decide +kernel
theorem dX5_timeWithout_28 : decode cX5_timeWithout 28 = .ok (.iload 7, 2) := by decide +kernel
theorem dX5_timeWithout_30 : decode cX5_timeWithout 30 = .ok (.iushr, 1) := by decide +kernel
theorem dX5_timeWithout_31 : decode cX5_timeWithout 31 = .ok (.iconst 1, 1) := by decide +kernel
theorem dX5_timeWithout_32 : decode cX5_timeWithout 32 = .ok (.iand, 1) := by decide +kernel
theorem dX5_timeWithout_33 : decode cX5_timeWithout 33 = .ok (.ifCond .ne 24, 3) := by decide +kernel
theorem dX5_timeWithout_36 : decode cX5_timeWithout 36 = .ok (.iload 5, 2) := by decide +kernel
theorem dX5_timeWithout_38 : decode cX5_timeWithout 38 = .ok (.aload_n 0, 1) := by decide +kernel
theorem dX5_timeWithout_39 : decode cX5_timeWithout 39 = .ok (.getfield 26, 3) := by decide +kernel
theorem dX5_timeWithout_42 : decode cX5_timeWithout 42 = .ok (.iload 7, 2) := by decide +kernel
theorem dX5_timeWithout_44 : decode cX5_timeWithout 44 = .ok (.bipush 9, 2) := by decide +kernel
theorem dX5_timeWithout_46 : decode cX5_timeWithout 46 = .ok (.imul, 1) := by decide +kernel
theorem dX5_timeWithout_47 : decode cX5_timeWithout 47 = .ok (.iload 4, 2) := by decide +kernel
theorem dX5_timeWithout_49 : decode cX5_timeWithout 49 = .ok (.iadd, 1) := by decide +kernel
theorem dX5_timeWithout_50 : decode cX5_timeWithout 50 = .ok (.iaload, 1) := by decide +kernel
theorem dX5_timeWithout_51 : decode cX5_timeWithout 51 = .ok (.iadd, 1) := by decide +kernel
theorem dX5_timeWithout_52 : decode cX5_timeWithout 52 = .ok (.istore 5, 2) := by decide +kernel
theorem dX5_timeWithout_54 : decode cX5_timeWithout 54 = .ok (.iinc 4 1, 3) := by decide +kernel
theorem dX5_timeWithout_57 : decode cX5_timeWithout 57 = .ok (.iload 7, 2) := by decide +kernel
theorem dX5_timeWithout_59 : decode cX5_timeWithout 59 = .ok (.iload_n 2, 1) := by decide +kernel
theorem dX5_timeWithout_60 : decode cX5_timeWithout 60 = .ok (.if_icmp .ne 6, 3) := by decide +kernel
theorem dX5_timeWithout_63 : decode cX5_timeWithout 63 = .ok (.iload 5, 2) := by decide +kernel
theorem dX5_timeWithout_65 : decode cX5_timeWithout 65 = .ok (.ireturn, 1) := by decide +kernel
theorem dX5_timeWithout_66 : decode cX5_timeWithout 66 = .ok (.iinc 6 1, 3) := by decide +kernel
theorem dX5_timeWithout_69 : decode cX5_timeWithout 69 = .ok (.goto (-60), 3) := by decide +kernel
theorem dX5_timeWithout_72 : decode cX5_timeWithout 72 = .ok (.iload 5, 2) := by decide +kernel
theorem dX5_timeWithout_74 : decode cX5_timeWithout 74 = .ok (.ireturn, 1) := by decide +kernel
theorem dX5_usedWithin_0 : decode cX5_usedWithin 0 = .ok (.iconst 0, 1) := by decide +kernel
theorem dX5_usedWithin_1 : decode cX5_usedWithin 1 = .ok (.istore_n 3, 1) := by decide +kernel
theorem dX5_usedWithin_2 : decode cX5_usedWithin 2 = .ok (.iconst 0, 1) := by decide +kernel
theorem dX5_usedWithin_3 : decode cX5_usedWithin 3 = .ok (.istore 4, 2) := by decide +kernel
theorem dX5_usedWithin_5 : decode cX5_usedWithin 5 = .ok (.iload 4, 2) := by decide +kernel
theorem dX5_usedWithin_7 : decode cX5_usedWithin 7 = .ok (.aload_n 1, 1) := by decide +kernel
theorem dX5_usedWithin_8 : decode cX5_usedWithin 8 = .ok (.getfield 71, 3) := by decide +kernel
theorem dX5_usedWithin_11 : decode cX5_usedWithin 11 = .ok (.if_icmp .ge 45, 3) := by decide +kernel
theorem dX5_usedWithin_14 : decode cX5_usedWithin 14 = .ok (.aload_n 1, 1) := by decide +kernel
theorem dX5_usedWithin_15 : decode cX5_usedWithin 15 = .ok (.iload 4, 2) := by decide +kernel
theorem dX5_usedWithin_17 : decode cX5_usedWithin 17 = .ok (.invokevirtual 57, 3) := by decide +kernel
theorem dX5_usedWithin_20 : decode cX5_usedWithin 20 = .ok (.bipush (-2), 2) := by decide +kernel
theorem dX5_usedWithin_22 : decode cX5_usedWithin 22 = .ok (.if_icmp .eq 28, 3) := by decide +kernel
theorem dX5_usedWithin_25 : decode cX5_usedWithin 25 = .ok (.aload_n 1, 1) := by decide +kernel
theorem dX5_usedWithin_26 : decode cX5_usedWithin 26 = .ok (.iload 4, 2) := by decide +kernel
theorem dX5_usedWithin_28 : decode cX5_usedWithin 28 = .ok (.aload_n 1, 1) := by decide +kernel
theorem dX5_usedWithin_29 : decode cX5_usedWithin 29 = .ok (.iload 4, 2) := by decide +kernel
theorem dX5_usedWithin_31 : decode cX5_usedWithin 31 = .ok (.invokevirtual 118, 3) := by decide +kernel
theorem dX5_usedWithin_34 : decode cX5_usedWithin 34 = .ok (.invokevirtual 121, 3) := by decide +kernel
theorem dX5_usedWithin_37 : decode cX5_usedWithin 37 = .ok (.iload_n 2, 1) := by decide +kernel
theorem dX5_usedWithin_38 : decode cX5_usedWithin 38 = .ok (.if_icmp .gt 12, 3) := by decide +kernel
theorem dX5_usedWithin_41 : decode cX5_usedWithin 41 = .ok (.iload_n 3, 1) := by decide +kernel
theorem dX5_usedWithin_42 : decode cX5_usedWithin 42 = .ok (.aload_n 1, 1) := by decide +kernel
theorem dX5_usedWithin_43 : decode cX5_usedWithin 43 = .ok (.iload 4, 2) := by decide +kernel
theorem dX5_usedWithin_45 : decode cX5_usedWithin 45 = .ok (.invokevirtual 95, 3) := by decide +kernel
theorem dX5_usedWithin_48 : decode cX5_usedWithin 48 = .ok (.iadd, 1) := by decide +kernel
theorem dX5_usedWithin_49 : decode cX5_usedWithin 49 = .ok (.istore_n 3, 1) := by decide +kernel
theorem dX5_usedWithin_50 : decode cX5_usedWithin 50 = .ok (.iinc 4 1, 3) := by decide +kernel
theorem dX5_usedWithin_53 : decode cX5_usedWithin 53 = .ok (.goto (-48), 3) := by decide +kernel
theorem dX5_usedWithin_56 : decode cX5_usedWithin 56 = .ok (.iload_n 3, 1) := by decide +kernel
theorem dX5_usedWithin_57 : decode cX5_usedWithin 57 = .ok (.ireturn, 1) := by decide +kernel
theorem dX6_init_0 : decode cX6_init 0 = .ok (.aload_n 0, 1) := by decide +kernel
theorem dX6_init_1 : decode cX6_init 1 = .ok (.invokespecial 3, 3) := by decide +kernel
theorem dX6_init_4 : decode cX6_init 4 = .ok (.aload_n 0, 1) := by decide +kernel
theorem dX6_init_5 : decode cX6_init 5 = .ok (.new 9, 3) := by decide +kernel
theorem dX6_init_8 : decode cX6_init 8 = .ok (.dup, 1) := by decide +kernel
theorem dX6_init_9 : decode cX6_init 9 = .ok (.bipush 30, 2) := by decide +kernel
theorem dX6_init_11 : decode cX6_init 11 = .ok (.invokespecial 11, 3) := by decide +kernel
theorem dX6_init_14 : decode cX6_init 14 = .ok (.putfield 14, 3) := by decide +kernel
theorem dX6_init_17 : decode cX6_init 17 = .ok (.return_, 1) := by decide +kernel
theorem dX6_answer_0 : decode cX6_answer 0 = .ok (.aload_n 0, 1) := by decide +kernel
theorem dX6_answer_1 : decode cX6_answer 1 = .ok (.iload_n 1, 1) := by decide +kernel
theorem dX6_answer_2 : decode cX6_answer 2 = .ok (.putfield 20, 3) := by decide +kernel
theorem dX6_answer_5 : decode cX6_answer 5 = .ok (.aload_n 0, 1) := by decide +kernel
theorem dX6_answer_6 : decode cX6_answer 6 = .ok (.aload_n 2, 1) := by decide +kernel
theorem dX6_answer_7 : decode cX6_answer 7 = .ok (.getfield 24, 3) := by decide +kernel
theorem dX6_answer_10 : decode cX6_answer 10 = .ok (.putfield 29, 3) := by decide +kernel
theorem dX6_answer_13 : decode cX6_answer 13 = .ok (.aload_n 0, 1) := by decide +kernel
theorem dX6_answer_14 : decode cX6_answer 14 = .ok (.aload_n 2, 1) := by decide +kernel
theorem dX6_answer_15 : decode cX6_answer 15 = .ok (.getfield 30, 3) := by decide +kernel
theorem dX6_answer_18 : decode cX6_answer 18 = .ok (.putfield 33, 3) := by decide +kernel
theorem dX6_answer_21 : decode cX6_answer 21 = .ok (.aload_n 0, 1) := by decide +kernel
theorem dX6_answer_22 : decode cX6_answer 22 = .ok (.iconst 0, 1) := by decide +kernel
theorem dX6_answer_23 : decode cX6_answer 23 = .ok (.putfield 34, 3) := by decide +kernel
theorem dX6_answer_26 : decode cX6_answer 26 = .ok (.aload_n 0, 1) := by decide +kernel
theorem dX6_answer_27 : decode cX6_answer 27 = .ok (.getfield 14, 3) := by decide +kernel
theorem dX6_answer_30 : decode cX6_answer 30 = .ok (.iconst 0, 1) := by decide +kernel
theorem dX6_answer_31 : decode cX6_answer 31 = .ok (.putfield 38, 3) := by decide +kernel
theorem dX6_answer_34 : decode cX6_answer 34 = .ok (.aload_n 0, 1) := by decide +kernel
theorem dX6_answer_35 : decode cX6_answer 35 = .ok (.iload_n 3, 1) := by decide +kernel
theorem dX6_answer_36 : decode cX6_answer 36 = .ok (.aload_n 0, 1) := by decide +kernel
theorem dX6_answer_37 : decode cX6_answer 37 = .ok (.getfield 29, 3) := by decide +kernel
theorem dX6_answer_40 : decode cX6_answer 40 = .ok (.iload 4, 2) := by decide +kernel
theorem dX6_answer_42 : decode cX6_answer 42 = .ok (.iconst 0, 1) := by decide +kernel
theorem dX6_answer_43 : decode cX6_answer 43 = .ok (.invokevirtual 41, 3) := by decide +kernel
theorem dX6_answer_46 : decode cX6_answer 46 = .ok (.ireturn, 1) := by decide +kernel
theorem dX6_bodyFrom_0 : decode cX6_bodyFrom 0 = .ok (.iload_n 1, 1) := by decide +kernel
theorem dX6_bodyFrom_1 : decode cX6_bodyFrom 1 = .ok (.istore_n 2, 1) := by decide +kernel
theorem dX6_bodyFrom_2 : decode cX6_bodyFrom 2 = .ok (.iconst 0, 1) := by decide +kernel
theorem dX6_bodyFrom_3 : decode cX6_bodyFrom 3 = .ok (.istore_n 3, 1) := by decide +kernel
theorem dX6_bodyFrom_4 : decode cX6_bodyFrom 4 = .ok (.iload_n 3, 1) := by decide +kernel
theorem dX6_bodyFrom_5 : decode cX6_bodyFrom 5 = .ok (.bipush 7, 2) := by decide +kernel
theorem dX6_bodyFrom_7 : decode cX6_bodyFrom 7 = .ok (.if_icmp .ge 38, 3) := by decide +kernel
theorem dX6_bodyFrom_10 : decode cX6_bodyFrom 10 = .ok (.iload_n 2, 1) := by decide +kernel
theorem dX6_bodyFrom_11 : decode cX6_bodyFrom 11 = .ok (.ifCond .lt 34, 3) := by decide +kernel
theorem dX6_bodyFrom_14 : decode cX6_bodyFrom 14 = .ok (.getstatic 45, 3) := by decide +kernel
theorem dX6_bodyFrom_17 : decode cX6_bodyFrom 17 = .ok (.iload_n 2, 1) := by decide +kernel
theorem dX6_bodyFrom_18 : decode cX6_bodyFrom 18 = .ok (.iconst 4, 1) := by decide +kernel
theorem dX6_bodyFrom_19 : decode cX6_bodyFrom 19 = .ok (.imul, 1) := by decide +kernel
theorem dX6_bodyFrom_20 : decode cX6_bodyFrom 20 = .ok (.iload_n 0, 1) := by decide +kernel
theorem dX6_bodyFrom_21 : decode cX6_bodyFrom 21 = .ok (.iadd, 1) := by decide +kernel
theorem dX6_bodyFrom_22 : decode cX6_bodyFrom 22 = .ok (.iaload, 1) := by decide +kernel
theorem dX6_bodyFrom_23 : decode cX6_bodyFrom 23 = .ok (.istore 4, 2) := by decide +kernel
theorem dX6_bodyFrom_25 : decode cX6_bodyFrom 25 = .ok (.iload 4, 2) := by decide +kernel
theorem dX6_bodyFrom_27 : decode cX6_bodyFrom 27 = .ok (.ifCond .eq 6, 3) := by decide +kernel
theorem dX6_bodyFrom_30 : decode cX6_bodyFrom 30 = .ok (.iload 4, 2) := by decide +kernel
theorem dX6_bodyFrom_32 : decode cX6_bodyFrom 32 = .ok (.ireturn, 1) := by decide +kernel
theorem dX6_bodyFrom_33 : decode cX6_bodyFrom 33 = .ok (.getstatic 49, 3) := by decide +kernel
theorem dX6_bodyFrom_36 : decode cX6_bodyFrom 36 = .ok (.iload_n 2, 1) := by decide +kernel
theorem dX6_bodyFrom_37 : decode cX6_bodyFrom 37 = .ok (.iaload, 1) := by decide +kernel
theorem dX6_bodyFrom_38 : decode cX6_bodyFrom 38 = .ok (.istore_n 2, 1) := by decide +kernel
theorem dX6_bodyFrom_39 : decode cX6_bodyFrom 39 = .ok (.iinc 3 1, 3) := by decide +kernel
theorem dX6_bodyFrom_42 : decode cX6_bodyFrom 42 = .ok (.goto (-38), 3) := by decide +kernel
theorem dX6_bodyFrom_45 : decode cX6_bodyFrom 45 = .ok (.iconst 0, 1) := by decide +kernel
theorem dX6_bodyFrom_46 : decode cX6_bodyFrom 46 = .ok (.ireturn, 1) := by decide +kernel
theorem dX6_speak_0 : decode cX6_speak 0 = .ok (.iload_n 1, 1) := by decide +kernel
theorem dX6_speak_1 : decode cX6_speak 1 = .ok (.iload_n 2, 1) := by decide +kernel
theorem dX6_speak_2 : decode cX6_speak 2 = .ok (.invokestatic 52, 3) := by decide +kernel
theorem dX6_speak_5 : decode cX6_speak 5 = .ok (.istore 5, 2) := by decide +kernel
theorem dX6_speak_7 : decode cX6_speak 7 = .ok (.iload 4, 2) := by decide +kernel
theorem dX6_speak_9 : decode cX6_speak 9 = .ok (.bipush 30, 2) := by decide +kernel
theorem dX6_speak_11 : decode cX6_speak 11 = .ok (.if_icmp .gt 15, 3) := by decide +kernel
theorem dX6_speak_14 : decode cX6_speak 14 = .ok (.aload_n 0, 1) := by decide +kernel
theorem dX6_speak_15 : decode cX6_speak 15 = .ok (.getfield 34, 3) := by decide +kernel
theorem dX6_speak_18 : decode cX6_speak 18 = .ok (.ifCond .ne 8, 3) := by decide +kernel
theorem dX6_speak_21 : decode cX6_speak 21 = .ok (.iload 5, 2) := by decide +kernel
theorem dX6_speak_23 : decode cX6_speak 23 = .ok (.ifCond .ne 5, 3) := by decide +kernel
theorem dX6_speak_26 : decode cX6_speak 26 = .ok (.iconst 0, 1) := by decide +kernel
theorem dX6_speak_27 : decode cX6_speak 27 = .ok (.ireturn, 1) := by decide +kernel
theorem dX6_speak_28 : decode cX6_speak 28 = .ok (.aload_n 0, 1) := by decide +kernel
theorem dX6_speak_29 : decode cX6_speak 29 = .ok (.getfield 14, 3) := by decide +kernel
theorem dX6_speak_32 : decode cX6_speak 32 = .ok (.iload 5, 2) := by decide +kernel
theorem dX6_speak_34 : decode cX6_speak 34 = .ok (.invokevirtual 56, 3) := by decide +kernel
theorem dX6_speak_37 : decode cX6_speak 37 = .ok (.getstatic 49, 3) := by decide +kernel
theorem dX6_speak_40 : decode cX6_speak 40 = .ok (.iload 5, 2) := by decide +kernel
theorem dX6_speak_42 : decode cX6_speak 42 = .ok (.bipush 10, 2) := by decide +kernel
theorem dX6_speak_44 : decode cX6_speak 44 = .ok (.idiv, 1) := by decide +kernel
theorem dX6_speak_45 : decode cX6_speak 45 = .ok (.iconst 1, 1) := by decide +kernel
theorem dX6_speak_46 : decode cX6_speak 46 = .ok (.isub, 1) := by decide +kernel
theorem dX6_speak_47 : decode cX6_speak 47 = .ok (.iaload, 1) := by decide +kernel
theorem dX6_speak_48 : decode cX6_speak 48 = .ok (.istore 6, 2) := by decide +kernel
theorem dX6_speak_50 : decode cX6_speak 50 = .ok (.iload 4, 2) := by decide +kernel
theorem dX6_speak_52 : decode cX6_speak 52 = .ok (.iconst 1, 1) := by decide +kernel
theorem dX6_speak_53 : decode cX6_speak 53 = .ok (.iadd, 1) := by decide +kernel
theorem dX6_speak_54 : decode cX6_speak 54 = .ok (.istore 7, 2) := by decide +kernel
theorem dX6_speak_56 : decode cX6_speak 56 = .ok (.iload 5, 2) := by decide +kernel
theorem dX6_speak_58 : decode cX6_speak 58 = .ok (.lookupswitch 293 #[(10, 114), (11, 121), (12, 136), (13, 154), (20, 169), (21, 182), (30, 206), (40, 219), (50, 232), (51, 245), (60, 261), (70, 274), (71, 277)], 114) := by decide +kernel
theorem dX6_speak_172 : decode cX6_speak 172 = .ok (.iload_n 3, 1) := by decide +kernel
theorem dX6_speak_173 : decode cX6_speak 173 = .ok (.aload_n 0, 1) := by decide +kernel
theorem dX6_speak_174 : decode cX6_speak 174 = .ok (.getfield 20, 3) := by decide +kernel
theorem dX6_speak_177 : decode cX6_speak 177 = .ok (.iadd, 1) := by decide +kernel
theorem dX6_speak_178 : decode cX6_speak 178 = .ok (.ireturn, 1) := by decide +kernel
theorem dX6_speak_179 : decode cX6_speak 179 = .ok (.aload_n 0, 1) := by decide +kernel
theorem dX6_speak_180 : decode cX6_speak 180 = .ok (.iconst 0, 1) := by decide +kernel
theorem dX6_speak_181 : decode cX6_speak 181 = .ok (.aload_n 0, 1) := by decide +kernel
theorem dX6_speak_182 : decode cX6_speak 182 = .ok (.getfield 29, 3) := by decide +kernel
theorem dX6_speak_185 : decode cX6_speak 185 = .ok (.iload_n 3, 1) := by decide +kernel
theorem dX6_speak_186 : decode cX6_speak 186 = .ok (.iload 7, 2) := by decide +kernel
theorem dX6_speak_188 : decode cX6_speak 188 = .ok (.invokevirtual 41, 3) := by decide +kernel
theorem dX6_speak_191 : decode cX6_speak 191 = .ok (.iconst 2, 1) := by decide +kernel
theorem dX6_speak_192 : decode cX6_speak 192 = .ok (.imul, 1) := by decide +kernel
theorem dX6_speak_193 : decode cX6_speak 193 = .ok (.ireturn, 1) := by decide +kernel
theorem dX6_speak_194 : decode cX6_speak 194 = .ok (.aload_n 0, 1) := by decide +kernel
theorem dX6_speak_195 : decode cX6_speak 195 = .ok (.iconst 1, 1) := by decide +kernel
theorem dX6_speak_196 : decode cX6_speak 196 = .ok (.aload_n 0, 1) := by decide +kernel
theorem dX6_speak_197 : decode cX6_speak 197 = .ok (.getfield 29, 3) := by decide +kernel
theorem dX6_speak_200 : decode cX6_speak 200 = .ok (.iload_n 3, 1) := by decide +kernel
theorem dX6_speak_201 : decode cX6_speak 201 = .ok (.iload 7, 2) := by decide +kernel
theorem dX6_speak_203 : decode cX6_speak 203 = .ok (.invokevirtual 41, 3) := by decide +kernel
theorem dX6_speak_206 : decode cX6_speak 206 = .ok (.aload_n 0, 1) := by decide +kernel
theorem dX6_speak_207 : decode cX6_speak 207 = .ok (.getfield 33, 3) := by decide +kernel
theorem dX6_speak_210 : decode cX6_speak 210 = .ok (.isub, 1) := by decide +kernel
theorem dX6_speak_211 : decode cX6_speak 211 = .ok (.ireturn, 1) := by decide +kernel
theorem dX6_speak_212 : decode cX6_speak 212 = .ok (.aload_n 0, 1) := by decide +kernel
theorem dX6_speak_213 : decode cX6_speak 213 = .ok (.iload_n 3, 1) := by decide +kernel
theorem dX6_speak_214 : decode cX6_speak 214 = .ok (.aload_n 0, 1) := by decide +kernel
theorem dX6_speak_215 : decode cX6_speak 215 = .ok (.getfield 33, 3) := by decide +kernel
theorem dX6_speak_218 : decode cX6_speak 218 = .ok (.aload_n 0, 1) := by decide +kernel
theorem dX6_speak_219 : decode cX6_speak 219 = .ok (.getfield 20, 3) := by decide +kernel
theorem dX6_speak_222 : decode cX6_speak 222 = .ok (.isub, 1) := by decide +kernel
theorem dX6_speak_223 : decode cX6_speak 223 = .ok (.invokevirtual 59, 3) := by decide +kernel
theorem dX6_speak_226 : decode cX6_speak 226 = .ok (.ireturn, 1) := by decide +kernel
theorem dX6_speak_227 : decode cX6_speak 227 = .ok (.aload_n 0, 1) := by decide +kernel
theorem dX6_speak_228 : decode cX6_speak 228 = .ok (.iconst 0, 1) := by decide +kernel
theorem dX6_speak_229 : decode cX6_speak 229 = .ok (.iload 6, 2) := by decide +kernel
theorem dX6_speak_231 : decode cX6_speak 231 = .ok (.iload_n 3, 1) := by decide +kernel
theorem dX6_speak_232 : decode cX6_speak 232 = .ok (.iload 7, 2) := by decide +kernel
theorem dX6_speak_234 : decode cX6_speak 234 = .ok (.invokevirtual 41, 3) := by decide +kernel
theorem dX6_speak_237 : decode cX6_speak 237 = .ok (.iconst 4, 1) := by decide +kernel
theorem dX6_speak_238 : decode cX6_speak 238 = .ok (.isub, 1) := by decide +kernel
theorem dX6_speak_239 : decode cX6_speak 239 = .ok (.ireturn, 1) := by decide +kernel
theorem dX6_speak_240 : decode cX6_speak 240 = .ok (.aload_n 0, 1) := by decide +kernel
theorem dX6_speak_241 : decode cX6_speak 241 = .ok (.iconst 3, 1) := by decide +kernel
theorem dX6_speak_242 : decode cX6_speak 242 = .ok (.iload 6, 2) := by decide +kernel
theorem dX6_speak_244 : decode cX6_speak 244 = .ok (.iload_n 3, 1) := by decide +kernel
theorem dX6_speak_245 : decode cX6_speak 245 = .ok (.iload 7, 2) := by decide +kernel
theorem dX6_speak_247 : decode cX6_speak 247 = .ok (.invokevirtual 41, 3) := by decide +kernel
theorem dX6_speak_250 : decode cX6_speak 250 = .ok (.aload_n 0, 1) := by decide +kernel
theorem dX6_speak_251 : decode cX6_speak 251 = .ok (.iconst 1, 1) := by decide +kernel
theorem dX6_speak_252 : decode cX6_speak 252 = .ok (.aload_n 0, 1) := by decide +kernel
theorem dX6_speak_253 : decode cX6_speak 253 = .ok (.getfield 29, 3) := by decide +kernel
theorem dX6_speak_256 : decode cX6_speak 256 = .ok (.iconst 1, 1) := by decide +kernel
theorem dX6_speak_257 : decode cX6_speak 257 = .ok (.iload 7, 2) := by decide +kernel
theorem dX6_speak_259 : decode cX6_speak 259 = .ok (.invokevirtual 41, 3) := by decide +kernel
theorem dX6_speak_262 : decode cX6_speak 262 = .ok (.iadd, 1) := by decide +kernel
theorem dX6_speak_263 : decode cX6_speak 263 = .ok (.ireturn, 1) := by decide +kernel
theorem dX6_speak_264 : decode cX6_speak 264 = .ok (.iconst 0, 1) := by decide +kernel
theorem dX6_speak_265 : decode cX6_speak 265 = .ok (.aload_n 0, 1) := by decide +kernel
theorem dX6_speak_266 : decode cX6_speak 266 = .ok (.iconst 1, 1) := by decide +kernel
theorem dX6_speak_267 : decode cX6_speak 267 = .ok (.iload 6, 2) := by decide +kernel
theorem dX6_speak_269 : decode cX6_speak 269 = .ok (.iload_n 3, 1) := by decide +kernel
theorem dX6_speak_270 : decode cX6_speak 270 = .ok (.iload 7, 2) := by decide +kernel
theorem dX6_speak_272 : decode cX6_speak 272 = .ok (.invokevirtual 41, 3) := by decide +kernel
theorem dX6_speak_275 : decode cX6_speak 275 = .ok (.isub, 1) := by decide +kernel
theorem dX6_speak_276 : decode cX6_speak 276 = .ok (.ireturn, 1) := by decide +kernel
theorem dX6_speak_277 : decode cX6_speak 277 = .ok (.aload_n 0, 1) := by decide +kernel
theorem dX6_speak_278 : decode cX6_speak 278 = .ok (.iconst 2, 1) := by decide +kernel
theorem dX6_speak_279 : decode cX6_speak 279 = .ok (.iload 6, 2) := by decide +kernel
theorem dX6_speak_281 : decode cX6_speak 281 = .ok (.iload_n 3, 1) := by decide +kernel
theorem dX6_speak_282 : decode cX6_speak 282 = .ok (.iconst 2, 1) := by decide +kernel
theorem dX6_speak_283 : decode cX6_speak 283 = .ok (.idiv, 1) := by decide +kernel
theorem dX6_speak_284 : decode cX6_speak 284 = .ok (.iload 7, 2) := by decide +kernel
theorem dX6_speak_286 : decode cX6_speak 286 = .ok (.invokevirtual 41, 3) := by decide +kernel
theorem dX6_speak_289 : decode cX6_speak 289 = .ok (.ireturn, 1) := by decide +kernel
theorem dX6_speak_290 : decode cX6_speak 290 = .ok (.aload_n 0, 1) := by decide +kernel
theorem dX6_speak_291 : decode cX6_speak 291 = .ok (.iconst 0, 1) := by decide +kernel
theorem dX6_speak_292 : decode cX6_speak 292 = .ok (.iload 6, 2) := by decide +kernel
theorem dX6_speak_294 : decode cX6_speak 294 = .ok (.iload_n 3, 1) := by decide +kernel
theorem dX6_speak_295 : decode cX6_speak 295 = .ok (.iload 7, 2) := by decide +kernel
theorem dX6_speak_297 : decode cX6_speak 297 = .ok (.invokevirtual 41, 3) := by decide +kernel
theorem dX6_speak_300 : decode cX6_speak 300 = .ok (.iconst 3, 1) := by decide +kernel
theorem dX6_speak_301 : decode cX6_speak 301 = .ok (.imul, 1) := by decide +kernel
theorem dX6_speak_302 : decode cX6_speak 302 = .ok (.ireturn, 1) := by decide +kernel
theorem dX6_speak_303 : decode cX6_speak 303 = .ok (.aload_n 0, 1) := by decide +kernel
theorem dX6_speak_304 : decode cX6_speak 304 = .ok (.iconst 2, 1) := by decide +kernel
theorem dX6_speak_305 : decode cX6_speak 305 = .ok (.iload 6, 2) := by decide +kernel
theorem dX6_speak_307 : decode cX6_speak 307 = .ok (.iload_n 3, 1) := by decide +kernel
theorem dX6_speak_308 : decode cX6_speak 308 = .ok (.iload 7, 2) := by decide +kernel
theorem dX6_speak_310 : decode cX6_speak 310 = .ok (.invokevirtual 41, 3) := by decide +kernel
theorem dX6_speak_313 : decode cX6_speak 313 = .ok (.aload_n 0, 1) := by decide +kernel
theorem dX6_speak_314 : decode cX6_speak 314 = .ok (.getfield 20, 3) := by decide +kernel
theorem dX6_speak_317 : decode cX6_speak 317 = .ok (.ixor, 1) := by decide +kernel
theorem dX6_speak_318 : decode cX6_speak 318 = .ok (.ireturn, 1) := by decide +kernel
theorem dX6_speak_319 : decode cX6_speak 319 = .ok (.aload_n 0, 1) := by decide +kernel
theorem dX6_speak_320 : decode cX6_speak 320 = .ok (.iconst 1, 1) := by decide +kernel
theorem dX6_speak_321 : decode cX6_speak 321 = .ok (.iload 6, 2) := by decide +kernel
theorem dX6_speak_323 : decode cX6_speak 323 = .ok (.iload_n 3, 1) := by decide +kernel
theorem dX6_speak_324 : decode cX6_speak 324 = .ok (.iconst 1, 1) := by decide +kernel
theorem dX6_speak_325 : decode cX6_speak 325 = .ok (.iadd, 1) := by decide +kernel
theorem dX6_speak_326 : decode cX6_speak 326 = .ok (.iload 7, 2) := by decide +kernel
theorem dX6_speak_328 : decode cX6_speak 328 = .ok (.invokevirtual 41, 3) := by decide +kernel
theorem dX6_speak_331 : decode cX6_speak 331 = .ok (.ireturn, 1) := by decide +kernel
theorem dX6_speak_332 : decode cX6_speak 332 = .ok (.bipush 9, 2) := by decide +kernel
theorem dX6_speak_334 : decode cX6_speak 334 = .ok (.ireturn, 1) := by decide +kernel
theorem dX6_speak_335 : decode cX6_speak 335 = .ok (.aload_n 0, 1) := by decide +kernel
theorem dX6_speak_336 : decode cX6_speak 336 = .ok (.iconst 1, 1) := by decide +kernel
theorem dX6_speak_337 : decode cX6_speak 337 = .ok (.iload 6, 2) := by decide +kernel
theorem dX6_speak_339 : decode cX6_speak 339 = .ok (.iload_n 3, 1) := by decide +kernel
theorem dX6_speak_340 : decode cX6_speak 340 = .ok (.iload 7, 2) := by decide +kernel
theorem dX6_speak_342 : decode cX6_speak 342 = .ok (.invokevirtual 41, 3) := by decide +kernel
theorem dX6_speak_345 : decode cX6_speak 345 = .ok (.aload_n 0, 1) := by decide +kernel
theorem dX6_speak_346 : decode cX6_speak 346 = .ok (.getfield 33, 3) := by decide +kernel
theorem dX6_speak_349 : decode cX6_speak 349 = .ok (.iadd, 1) := by decide +kernel
theorem dX6_speak_350 : decode cX6_speak 350 = .ok (.ireturn, 1) := by decide +kernel
theorem dX6_speak_351 : decode cX6_speak 351 = .ok (.iconst 0, 1) := by decide +kernel
theorem dX6_speak_352 : decode cX6_speak 352 = .ok (.ireturn, 1) := by decide +kernel
theorem dX6_partedBy_0 : decode cX6_partedBy 0 = .ok (.iload_n 2, 1) := by decide +kernel
theorem dX6_partedBy_1 : decode cX6_partedBy 1 = .ok (.ifCond .ne 10, 3) := by decide +kernel
theorem dX6_partedBy_4 : decode cX6_partedBy 4 = .ok (.aload_n 0, 1) := by decide +kernel
theorem dX6_partedBy_5 : decode cX6_partedBy 5 = .ok (.iconst 1, 1) := by decide +kernel
theorem dX6_partedBy_6 : decode cX6_partedBy 6 = .ok (.putfield 34, 3) := by decide +kernel
theorem dX6_partedBy_9 : decode cX6_partedBy 9 = .ok (.iconst 0, 1) := by decide +kernel
theorem dX6_partedBy_10 : decode cX6_partedBy 10 = .ok (.ireturn, 1) := by decide +kernel
theorem dX6_partedBy_11 : decode cX6_partedBy 11 = .ok (.iload_n 1, 1) := by decide +kernel
theorem dX6_partedBy_12 : decode cX6_partedBy 12 = .ok (.iload_n 2, 1) := by decide +kernel
theorem dX6_partedBy_13 : decode cX6_partedBy 13 = .ok (.idiv, 1) := by decide +kernel
theorem dX6_partedBy_14 : decode cX6_partedBy 14 = .ok (.ireturn, 1) := by decide +kernel
theorem dJ0_length_8abf5_0 : decode cJ0_length_8abf5 0 = .ok (.aload_n 0, 1) := by decide +kernel
theorem dJ0_length_8abf5_1 : decode cJ0_length_8abf5 1 = .ok (.getfield 9, 3) := by decide +kernel
theorem dJ0_length_8abf5_4 : decode cJ0_length_8abf5 4 = .ok (.arraylength, 1) := by decide +kernel
theorem dJ0_length_8abf5_5 : decode cJ0_length_8abf5 5 = .ok (.aload_n 0, 1) := by decide +kernel
theorem dJ0_length_8abf5_6 : decode cJ0_length_8abf5 6 = .ok (.invokevirtual 335, 3) := by decide +kernel
theorem dJ0_length_8abf5_9 : decode cJ0_length_8abf5 9 = .ok (.ishr, 1) := by decide +kernel
theorem dJ0_length_8abf5_10 : decode cJ0_length_8abf5 10 = .ok (.ireturn, 1) := by decide +kernel
theorem dJ0_indexOf_0f7a4_0 : decode cJ0_indexOf_0f7a4 0 = .ok (.aload_n 0, 1) := by decide +kernel
theorem dJ0_indexOf_0f7a4_1 : decode cJ0_indexOf_0f7a4 1 = .ok (.iload_n 1, 1) := by decide +kernel
theorem dJ0_indexOf_0f7a4_2 : decode cJ0_indexOf_0f7a4 2 = .ok (.iconst 0, 1) := by decide +kernel
theorem dJ0_indexOf_0f7a4_3 : decode cJ0_indexOf_0f7a4 3 = .ok (.invokevirtual 633, 3) := by decide +kernel
theorem dJ0_indexOf_0f7a4_6 : decode cJ0_indexOf_0f7a4 6 = .ok (.ireturn, 1) := by decide +kernel
theorem dJ0_indexOf_7cf53_0 : decode cJ0_indexOf_7cf53 0 = .ok (.aload_n 0, 1) := by decide +kernel
theorem dJ0_indexOf_7cf53_1 : decode cJ0_indexOf_7cf53 1 = .ok (.invokevirtual 492, 3) := by decide +kernel
theorem dJ0_indexOf_7cf53_4 : decode cJ0_indexOf_7cf53 4 = .ok (.ifCond .eq 19, 3) := by decide +kernel
theorem dJ0_indexOf_7cf53_7 : decode cJ0_indexOf_7cf53 7 = .ok (.aload_n 0, 1) := by decide +kernel
theorem dJ0_indexOf_7cf53_8 : decode cJ0_indexOf_7cf53 8 = .ok (.getfield 9, 3) := by decide +kernel
theorem dJ0_indexOf_7cf53_11 : decode cJ0_indexOf_7cf53 11 = .ok (.iload_n 1, 1) := by decide +kernel
theorem dJ0_indexOf_7cf53_12 : decode cJ0_indexOf_7cf53 12 = .ok (.iload_n 2, 1) := by decide +kernel
theorem dJ0_indexOf_7cf53_13 : decode cJ0_indexOf_7cf53 13 = .ok (.aload_n 0, 1) := by decide +kernel
theorem dJ0_indexOf_7cf53_14 : decode cJ0_indexOf_7cf53 14 = .ok (.invokevirtual 505, 3) := by decide +kernel
theorem dJ0_indexOf_7cf53_17 : decode cJ0_indexOf_7cf53 17 = .ok (.invokestatic 637, 3) := by decide +kernel
theorem dJ0_indexOf_7cf53_20 : decode cJ0_indexOf_7cf53 20 = .ok (.goto 16, 3) := by decide +kernel
theorem dJ0_indexOf_7cf53_23 : decode cJ0_indexOf_7cf53 23 = .ok (.aload_n 0, 1) := by decide +kernel
theorem dJ0_indexOf_7cf53_24 : decode cJ0_indexOf_7cf53 24 = .ok (.getfield 9, 3) := by decide +kernel
theorem dJ0_indexOf_7cf53_27 : decode cJ0_indexOf_7cf53 27 = .ok (.iload_n 1, 1) := by decide +kernel
theorem dJ0_indexOf_7cf53_28 : decode cJ0_indexOf_7cf53 28 = .ok (.iload_n 2, 1) := by decide +kernel
theorem dJ0_indexOf_7cf53_29 : decode cJ0_indexOf_7cf53 29 = .ok (.aload_n 0, 1) := by decide +kernel
theorem dJ0_indexOf_7cf53_30 : decode cJ0_indexOf_7cf53 30 = .ok (.invokevirtual 505, 3) := by decide +kernel
theorem dJ0_indexOf_7cf53_33 : decode cJ0_indexOf_7cf53 33 = .ok (.invokestatic 640, 3) := by decide +kernel
theorem dJ0_indexOf_7cf53_36 : decode cJ0_indexOf_7cf53 36 = .ok (.ireturn, 1) := by decide +kernel
theorem dJ0_coder_7d493_0 : decode cJ0_coder_7d493 0 = .ok (.getstatic 38, 3) := by decide +kernel
theorem dJ0_coder_7d493_3 : decode cJ0_coder_7d493 3 = .ok (.ifCond .eq 10, 3) := by decide +kernel
theorem dJ0_coder_7d493_6 : decode cJ0_coder_7d493 6 = .ok (.aload_n 0, 1) := by decide +kernel
theorem dJ0_coder_7d493_7 : decode cJ0_coder_7d493 7 = .ok (.getfield 15, 3) := by decide +kernel
theorem dJ0_coder_7d493_10 : decode cJ0_coder_7d493 10 = .ok (.goto 4, 3) := by decide +kernel
theorem dJ0_coder_7d493_13 : decode cJ0_coder_7d493 13 = .ok (.iconst 1, 1) := by decide +kernel
theorem dJ0_coder_7d493_14 : decode cJ0_coder_7d493 14 = .ok (.ireturn, 1) := by decide +kernel
theorem dJ0_isLatin1_aae02_0 : decode cJ0_isLatin1_aae02 0 = .ok (.getstatic 38, 3) := by decide +kernel
theorem dJ0_isLatin1_aae02_3 : decode cJ0_isLatin1_aae02 3 = .ok (.ifCond .eq 14, 3) := by decide +kernel
theorem dJ0_isLatin1_aae02_6 : decode cJ0_isLatin1_aae02 6 = .ok (.aload_n 0, 1) := by decide +kernel
theorem dJ0_isLatin1_aae02_7 : decode cJ0_isLatin1_aae02 7 = .ok (.getfield 15, 3) := by decide +kernel
theorem dJ0_isLatin1_aae02_10 : decode cJ0_isLatin1_aae02 10 = .ok (.ifCond .ne 7, 3) := by decide +kernel
theorem dJ0_isLatin1_aae02_13 : decode cJ0_isLatin1_aae02 13 = .ok (.iconst 1, 1) := by decide +kernel
theorem dJ0_isLatin1_aae02_14 : decode cJ0_isLatin1_aae02 14 = .ok (.goto 4, 3) := by decide +kernel
theorem dJ0_isLatin1_aae02_17 : decode cJ0_isLatin1_aae02 17 = .ok (.iconst 0, 1) := by decide +kernel
theorem dJ0_isLatin1_aae02_18 : decode cJ0_isLatin1_aae02 18 = .ok (.ireturn, 1) := by decide +kernel
theorem dJ0_checkBoundsBeginEnd_23922_0 : decode cJ0_checkBoundsBeginEnd_23922 0 = .ok (.iload_n 0, 1) := by decide +kernel
theorem dJ0_checkBoundsBeginEnd_23922_1 : decode cJ0_checkBoundsBeginEnd_23922 1 = .ok (.iload_n 1, 1) := by decide +kernel
theorem dJ0_checkBoundsBeginEnd_23922_2 : decode cJ0_checkBoundsBeginEnd_23922 2 = .ok (.iload_n 2, 1) := by decide +kernel
theorem dJ0_checkBoundsBeginEnd_23922_3 : decode cJ0_checkBoundsBeginEnd_23922 3 = .ok (.getstatic 1053, 3) := by decide +kernel
theorem dJ0_checkBoundsBeginEnd_23922_6 : decode cJ0_checkBoundsBeginEnd_23922 6 = .ok (.invokestatic 1062, 3) := by decide +kernel
theorem dJ0_checkBoundsBeginEnd_23922_9 : decode cJ0_checkBoundsBeginEnd_23922 9 = .ok (.pop, 1) := by decide +kernel
theorem dJ0_checkBoundsBeginEnd_23922_10 : decode cJ0_checkBoundsBeginEnd_23922 10 = .ok (.return_, 1) := by decide +kernel
theorem dJ1_canEncode_9a6ad_0 : decode cJ1_canEncode_9a6ad 0 = .ok (.iload_n 0, 1) := by decide +kernel
theorem dJ1_canEncode_9a6ad_1 : decode cJ1_canEncode_9a6ad 1 = .ok (.ifCond .lt 14, 3) := by decide +kernel
theorem dJ1_canEncode_9a6ad_4 : decode cJ1_canEncode_9a6ad 4 = .ok (.iload_n 0, 1) := by decide +kernel
theorem dJ1_canEncode_9a6ad_5 : decode cJ1_canEncode_9a6ad 5 = .ok (.sipush 255, 3) := by decide +kernel
theorem dJ1_canEncode_9a6ad_8 : decode cJ1_canEncode_9a6ad 8 = .ok (.if_icmp .gt 7, 3) := by decide +kernel
theorem dJ1_canEncode_9a6ad_11 : decode cJ1_canEncode_9a6ad 11 = .ok (.iconst 1, 1) := by decide +kernel
theorem dJ1_canEncode_9a6ad_12 : decode cJ1_canEncode_9a6ad 12 = .ok (.goto 4, 3) := by decide +kernel
theorem dJ1_canEncode_9a6ad_15 : decode cJ1_canEncode_9a6ad 15 = .ok (.iconst 0, 1) := by decide +kernel
theorem dJ1_canEncode_9a6ad_16 : decode cJ1_canEncode_9a6ad 16 = .ok (.ireturn, 1) := by decide +kernel
theorem dJ1_indexOf_4cfef_0 : decode cJ1_indexOf_4cfef 0 = .ok (.iload_n 1, 1) := by decide +kernel
theorem dJ1_indexOf_4cfef_1 : decode cJ1_indexOf_4cfef 1 = .ok (.invokestatic 88, 3) := by decide +kernel
theorem dJ1_indexOf_4cfef_4 : decode cJ1_indexOf_4cfef 4 = .ok (.ifCond .ne 5, 3) := by decide +kernel
theorem dJ1_indexOf_4cfef_7 : decode cJ1_indexOf_4cfef 7 = .ok (.iconst (-1), 1) := by decide +kernel
theorem dJ1_indexOf_4cfef_8 : decode cJ1_indexOf_4cfef 8 = .ok (.ireturn, 1) := by decide +kernel
theorem dJ1_indexOf_4cfef_9 : decode cJ1_indexOf_4cfef 9 = .ok (.iload_n 2, 1) := by decide +kernel
theorem dJ1_indexOf_4cfef_10 : decode cJ1_indexOf_4cfef 10 = .ok (.iconst 0, 1) := by decide +kernel
theorem dJ1_indexOf_4cfef_11 : decode cJ1_indexOf_4cfef 11 = .ok (.invokestatic 92, 3) := by decide +kernel
theorem dJ1_indexOf_4cfef_14 : decode cJ1_indexOf_4cfef 14 = .ok (.istore_n 2, 1) := by decide +kernel
theorem dJ1_indexOf_4cfef_15 : decode cJ1_indexOf_4cfef 15 = .ok (.iload_n 3, 1) := by decide +kernel
theorem dJ1_indexOf_4cfef_16 : decode cJ1_indexOf_4cfef 16 = .ok (.aload_n 0, 1) := by decide +kernel
theorem dJ1_indexOf_4cfef_17 : decode cJ1_indexOf_4cfef 17 = .ok (.arraylength, 1) := by decide +kernel
theorem dJ1_indexOf_4cfef_18 : decode cJ1_indexOf_4cfef 18 = .ok (.invokestatic 38, 3) := by decide +kernel
theorem dJ1_indexOf_4cfef_21 : decode cJ1_indexOf_4cfef 21 = .ok (.istore_n 3, 1) := by decide +kernel
theorem dJ1_indexOf_4cfef_22 : decode cJ1_indexOf_4cfef 22 = .ok (.iload_n 2, 1) := by decide +kernel
theorem dJ1_indexOf_4cfef_23 : decode cJ1_indexOf_4cfef 23 = .ok (.iload_n 3, 1) := by decide +kernel
theorem dJ1_indexOf_4cfef_24 : decode cJ1_indexOf_4cfef 24 = .ok (.if_icmp .lt 5, 3) := by decide +kernel
theorem dJ1_indexOf_4cfef_27 : decode cJ1_indexOf_4cfef 27 = .ok (.iconst (-1), 1) := by decide +kernel
theorem dJ1_indexOf_4cfef_28 : decode cJ1_indexOf_4cfef 28 = .ok (.ireturn, 1) := by decide +kernel
theorem dJ1_indexOf_4cfef_29 : decode cJ1_indexOf_4cfef 29 = .ok (.aload_n 0, 1) := by decide +kernel
theorem dJ1_indexOf_4cfef_30 : decode cJ1_indexOf_4cfef 30 = .ok (.iload_n 1, 1) := by decide +kernel
theorem dJ1_indexOf_4cfef_31 : decode cJ1_indexOf_4cfef 31 = .ok (.iload_n 2, 1) := by decide +kernel
theorem dJ1_indexOf_4cfef_32 : decode cJ1_indexOf_4cfef 32 = .ok (.iload_n 3, 1) := by decide +kernel
theorem dJ1_indexOf_4cfef_33 : decode cJ1_indexOf_4cfef 33 = .ok (.invokestatic 95, 3) := by decide +kernel
theorem dJ1_indexOf_4cfef_36 : decode cJ1_indexOf_4cfef 36 = .ok (.ireturn, 1) := by decide +kernel
theorem dJ1_indexOfChar_4cfef_0 : decode cJ1_indexOfChar_4cfef 0 = .ok (.iload_n 1, 1) := by decide +kernel
theorem dJ1_indexOfChar_4cfef_1 : decode cJ1_indexOfChar_4cfef 1 = .ok (.i2b, 1) := by decide +kernel
theorem dJ1_indexOfChar_4cfef_2 : decode cJ1_indexOfChar_4cfef 2 = .ok (.istore 4, 2) := by decide +kernel
theorem dJ1_indexOfChar_4cfef_4 : decode cJ1_indexOfChar_4cfef 4 = .ok (.iload_n 2, 1) := by decide +kernel
theorem dJ1_indexOfChar_4cfef_5 : decode cJ1_indexOfChar_4cfef 5 = .ok (.istore 5, 2) := by decide +kernel
theorem dJ1_indexOfChar_4cfef_7 : decode cJ1_indexOfChar_4cfef 7 = .ok (.iload 5, 2) := by decide +kernel
theorem dJ1_indexOfChar_4cfef_9 : decode cJ1_indexOfChar_4cfef 9 = .ok (.iload_n 3, 1) := by decide +kernel
theorem dJ1_indexOfChar_4cfef_10 : decode cJ1_indexOfChar_4cfef 10 = .ok (.if_icmp .ge 21, 3) := by decide +kernel
theorem dJ1_indexOfChar_4cfef_13 : decode cJ1_indexOfChar_4cfef 13 = .ok (.aload_n 0, 1) := by decide +kernel
theorem dJ1_indexOfChar_4cfef_14 : decode cJ1_indexOfChar_4cfef 14 = .ok (.iload 5, 2) := by decide +kernel
theorem dJ1_indexOfChar_4cfef_16 : decode cJ1_indexOfChar_4cfef 16 = .ok (.baload, 1) := by decide +kernel
theorem dJ1_indexOfChar_4cfef_17 : decode cJ1_indexOfChar_4cfef 17 = .ok (.iload 4, 2) := by decide +kernel
theorem dJ1_indexOfChar_4cfef_19 : decode cJ1_indexOfChar_4cfef 19 = .ok (.if_icmp .ne 6, 3) := by decide +kernel
theorem dJ1_indexOfChar_4cfef_22 : decode cJ1_indexOfChar_4cfef 22 = .ok (.iload 5, 2) := by decide +kernel
theorem dJ1_indexOfChar_4cfef_24 : decode cJ1_indexOfChar_4cfef 24 = .ok (.ireturn, 1) := by decide +kernel
theorem dJ1_indexOfChar_4cfef_25 : decode cJ1_indexOfChar_4cfef 25 = .ok (.iinc 5 1, 3) := by decide +kernel
theorem dJ1_indexOfChar_4cfef_28 : decode cJ1_indexOfChar_4cfef 28 = .ok (.goto (-21), 3) := by decide +kernel
theorem dJ1_indexOfChar_4cfef_31 : decode cJ1_indexOfChar_4cfef 31 = .ok (.iconst (-1), 1) := by decide +kernel
theorem dJ1_indexOfChar_4cfef_32 : decode cJ1_indexOfChar_4cfef 32 = .ok (.ireturn, 1) := by decide +kernel
theorem dJ6_bitCount_0f7a4_0 : decode cJ6_bitCount_0f7a4 0 = .ok (.iload_n 0, 1) := by decide +kernel
theorem dJ6_bitCount_0f7a4_1 : decode cJ6_bitCount_0f7a4 1 = .ok (.iload_n 0, 1) := by decide +kernel
theorem dJ6_bitCount_0f7a4_2 : decode cJ6_bitCount_0f7a4 2 = .ok (.iconst 1, 1) := by decide +kernel
theorem dJ6_bitCount_0f7a4_3 : decode cJ6_bitCount_0f7a4 3 = .ok (.iushr, 1) := by decide +kernel
theorem dJ6_bitCount_0f7a4_4 : decode cJ6_bitCount_0f7a4 4 = .ok (.ldc_w 265, 3) := by decide +kernel
theorem dJ6_bitCount_0f7a4_7 : decode cJ6_bitCount_0f7a4 7 = .ok (.iand, 1) := by decide +kernel
theorem dJ6_bitCount_0f7a4_8 : decode cJ6_bitCount_0f7a4 8 = .ok (.isub, 1) := by decide +kernel
theorem dJ6_bitCount_0f7a4_9 : decode cJ6_bitCount_0f7a4 9 = .ok (.istore_n 0, 1) := by decide +kernel
theorem dJ6_bitCount_0f7a4_10 : decode cJ6_bitCount_0f7a4 10 = .ok (.iload_n 0, 1) := by decide +kernel
theorem dJ6_bitCount_0f7a4_11 : decode cJ6_bitCount_0f7a4 11 = .ok (.ldc_w 266, 3) := by decide +kernel
theorem dJ6_bitCount_0f7a4_14 : decode cJ6_bitCount_0f7a4 14 = .ok (.iand, 1) := by decide +kernel
theorem dJ6_bitCount_0f7a4_15 : decode cJ6_bitCount_0f7a4 15 = .ok (.iload_n 0, 1) := by decide +kernel
theorem dJ6_bitCount_0f7a4_16 : decode cJ6_bitCount_0f7a4 16 = .ok (.iconst 2, 1) := by decide +kernel
theorem dJ6_bitCount_0f7a4_17 : decode cJ6_bitCount_0f7a4 17 = .ok (.iushr, 1) := by decide +kernel
theorem dJ6_bitCount_0f7a4_18 : decode cJ6_bitCount_0f7a4 18 = .ok (.ldc_w 266, 3) := by decide +kernel
theorem dJ6_bitCount_0f7a4_21 : decode cJ6_bitCount_0f7a4 21 = .ok (.iand, 1) := by decide +kernel
theorem dJ6_bitCount_0f7a4_22 : decode cJ6_bitCount_0f7a4 22 = .ok (.iadd, 1) := by decide +kernel
theorem dJ6_bitCount_0f7a4_23 : decode cJ6_bitCount_0f7a4 23 = .ok (.istore_n 0, 1) := by decide +kernel
theorem dJ6_bitCount_0f7a4_24 : decode cJ6_bitCount_0f7a4 24 = .ok (.iload_n 0, 1) := by decide +kernel
theorem dJ6_bitCount_0f7a4_25 : decode cJ6_bitCount_0f7a4 25 = .ok (.iload_n 0, 1) := by decide +kernel
theorem dJ6_bitCount_0f7a4_26 : decode cJ6_bitCount_0f7a4 26 = .ok (.iconst 4, 1) := by decide +kernel
theorem dJ6_bitCount_0f7a4_27 : decode cJ6_bitCount_0f7a4 27 = .ok (.iushr, 1) := by decide +kernel
theorem dJ6_bitCount_0f7a4_28 : decode cJ6_bitCount_0f7a4 28 = .ok (.iadd, 1) := by decide +kernel
theorem dJ6_bitCount_0f7a4_29 : decode cJ6_bitCount_0f7a4 29 = .ok (.ldc_w 267, 3) := by decide +kernel
theorem dJ6_bitCount_0f7a4_32 : decode cJ6_bitCount_0f7a4 32 = .ok (.iand, 1) := by decide +kernel
theorem dJ6_bitCount_0f7a4_33 : decode cJ6_bitCount_0f7a4 33 = .ok (.istore_n 0, 1) := by decide +kernel
theorem dJ6_bitCount_0f7a4_34 : decode cJ6_bitCount_0f7a4 34 = .ok (.iload_n 0, 1) := by decide +kernel
theorem dJ6_bitCount_0f7a4_35 : decode cJ6_bitCount_0f7a4 35 = .ok (.iload_n 0, 1) := by decide +kernel
theorem dJ6_bitCount_0f7a4_36 : decode cJ6_bitCount_0f7a4 36 = .ok (.bipush 8, 2) := by decide +kernel
theorem dJ6_bitCount_0f7a4_38 : decode cJ6_bitCount_0f7a4 38 = .ok (.iushr, 1) := by decide +kernel
theorem dJ6_bitCount_0f7a4_39 : decode cJ6_bitCount_0f7a4 39 = .ok (.iadd, 1) := by decide +kernel
theorem dJ6_bitCount_0f7a4_40 : decode cJ6_bitCount_0f7a4 40 = .ok (.istore_n 0, 1) := by decide +kernel
theorem dJ6_bitCount_0f7a4_41 : decode cJ6_bitCount_0f7a4 41 = .ok (.iload_n 0, 1) := by decide +kernel
theorem dJ6_bitCount_0f7a4_42 : decode cJ6_bitCount_0f7a4 42 = .ok (.iload_n 0, 1) := by decide +kernel
theorem dJ6_bitCount_0f7a4_43 : decode cJ6_bitCount_0f7a4 43 = .ok (.bipush 16, 2) := by decide +kernel
theorem dJ6_bitCount_0f7a4_45 : decode cJ6_bitCount_0f7a4 45 = .ok (.iushr, 1) := by decide +kernel
theorem dJ6_bitCount_0f7a4_46 : decode cJ6_bitCount_0f7a4 46 = .ok (.iadd, 1) := by decide +kernel
theorem dJ6_bitCount_0f7a4_47 : decode cJ6_bitCount_0f7a4 47 = .ok (.istore_n 0, 1) := by decide +kernel
theorem dJ6_bitCount_0f7a4_48 : decode cJ6_bitCount_0f7a4 48 = .ok (.iload_n 0, 1) := by decide +kernel
theorem dJ6_bitCount_0f7a4_49 : decode cJ6_bitCount_0f7a4 49 = .ok (.bipush 63, 2) := by decide +kernel
theorem dJ6_bitCount_0f7a4_51 : decode cJ6_bitCount_0f7a4 51 = .ok (.iand, 1) := by decide +kernel
theorem dJ6_bitCount_0f7a4_52 : decode cJ6_bitCount_0f7a4 52 = .ok (.ireturn, 1) := by decide +kernel
theorem dJ9_max_7cf53_0 : decode cJ9_max_7cf53 0 = .ok (.iload_n 0, 1) := by decide +kernel
theorem dJ9_max_7cf53_1 : decode cJ9_max_7cf53 1 = .ok (.iload_n 1, 1) := by decide +kernel
theorem dJ9_max_7cf53_2 : decode cJ9_max_7cf53 2 = .ok (.if_icmp .lt 7, 3) := by decide +kernel
theorem dJ9_max_7cf53_5 : decode cJ9_max_7cf53 5 = .ok (.iload_n 0, 1) := by decide +kernel
theorem dJ9_max_7cf53_6 : decode cJ9_max_7cf53 6 = .ok (.goto 4, 3) := by decide +kernel
theorem dJ9_max_7cf53_9 : decode cJ9_max_7cf53 9 = .ok (.iload_n 1, 1) := by decide +kernel
theorem dJ9_max_7cf53_10 : decode cJ9_max_7cf53 10 = .ok (.ireturn, 1) := by decide +kernel
theorem dJ9_min_7cf53_0 : decode cJ9_min_7cf53 0 = .ok (.iload_n 0, 1) := by decide +kernel
theorem dJ9_min_7cf53_1 : decode cJ9_min_7cf53 1 = .ok (.iload_n 1, 1) := by decide +kernel
theorem dJ9_min_7cf53_2 : decode cJ9_min_7cf53 2 = .ok (.if_icmp .gt 7, 3) := by decide +kernel
theorem dJ9_min_7cf53_5 : decode cJ9_min_7cf53 5 = .ok (.iload_n 0, 1) := by decide +kernel
theorem dJ9_min_7cf53_6 : decode cJ9_min_7cf53 6 = .ok (.goto 4, 3) := by decide +kernel
theorem dJ9_min_7cf53_9 : decode cJ9_min_7cf53 9 = .ok (.iload_n 1, 1) := by decide +kernel
theorem dJ9_min_7cf53_10 : decode cJ9_min_7cf53 10 = .ok (.ireturn, 1) := by decide +kernel
end
section
theorem dX7_init_0 : decode cX7_init 0 = .ok (.aload_n 0, 1) := by decide +kernel
theorem dX7_init_1 : decode cX7_init 1 = .ok (.invokespecial 3, 3) := by decide +kernel
theorem dX7_init_4 : decode cX7_init 4 = .ok (.aload_n 0, 1) := by decide +kernel
theorem dX7_init_5 : decode cX7_init 5 = .ok (.new 9, 3) := by decide +kernel
theorem dX7_init_8 : decode cX7_init 8 = .ok (.dup, 1) := by decide +kernel
theorem dX7_init_9 : decode cX7_init 9 = .ok (.invokespecial 11, 3) := by decide +kernel
theorem dX7_init_12 : decode cX7_init 12 = .ok (.putfield 12, 3) := by decide +kernel
theorem dX7_init_15 : decode cX7_init 15 = .ok (.aload_n 0, 1) := by decide +kernel
theorem dX7_init_16 : decode cX7_init 16 = .ok (.new 9, 3) := by decide +kernel
theorem dX7_init_19 : decode cX7_init 19 = .ok (.dup, 1) := by decide +kernel
theorem dX7_init_20 : decode cX7_init 20 = .ok (.invokespecial 11, 3) := by decide +kernel
theorem dX7_init_23 : decode cX7_init 23 = .ok (.putfield 16, 3) := by decide +kernel
theorem dX7_init_26 : decode cX7_init 26 = .ok (.aload_n 0, 1) := by decide +kernel
theorem dX7_init_27 : decode cX7_init 27 = .ok (.iconst 4, 1) := by decide +kernel
theorem dX7_init_28 : decode cX7_init 28 = .ok (.anewarray 19, 3) := by decide +kernel
theorem dX7_init_31 : decode cX7_init 31 = .ok (.putfield 21, 3) := by decide +kernel
theorem dX7_init_34 : decode cX7_init 34 = .ok (.aload_n 0, 1) := by decide +kernel
theorem dX7_init_35 : decode cX7_init 35 = .ok (.new 25, 3) := by decide +kernel
theorem dX7_init_38 : decode cX7_init 38 = .ok (.dup, 1) := by decide +kernel
theorem dX7_init_39 : decode cX7_init 39 = .ok (.invokespecial 27, 3) := by decide +kernel
theorem dX7_init_42 : decode cX7_init 42 = .ok (.putfield 28, 3) := by decide +kernel
theorem dX7_init_45 : decode cX7_init 45 = .ok (.aload_n 0, 1) := by decide +kernel
theorem dX7_init_46 : decode cX7_init 46 = .ok (.new 32, 3) := by decide +kernel
theorem dX7_init_49 : decode cX7_init 49 = .ok (.dup, 1) := by decide +kernel
theorem dX7_init_50 : decode cX7_init 50 = .ok (.invokespecial 34, 3) := by decide +kernel
theorem dX7_init_53 : decode cX7_init 53 = .ok (.putfield 35, 3) := by decide +kernel
theorem dX7_init_56 : decode cX7_init 56 = .ok (.aload_n 0, 1) := by decide +kernel
theorem dX7_init_57 : decode cX7_init 57 = .ok (.bipush 7, 2) := by decide +kernel
theorem dX7_init_59 : decode cX7_init 59 = .ok (.newarray .int, 2) := by decide +kernel
theorem dX7_init_61 : decode cX7_init 61 = .ok (.putfield 39, 3) := by decide +kernel
theorem dX7_init_64 : decode cX7_init 64 = .ok (.iconst 0, 1) := by decide +kernel
theorem dX7_init_65 : decode cX7_init 65 = .ok (.istore_n 1, 1) := by decide +kernel
theorem dX7_init_66 : decode cX7_init 66 = .ok (.iload_n 1, 1) := by decide +kernel
theorem dX7_init_67 : decode cX7_init 67 = .ok (.iconst 4, 1) := by decide +kernel
theorem dX7_init_68 : decode cX7_init 68 = .ok (.if_icmp .ge 22, 3) := by decide +kernel
theorem dX7_init_71 : decode cX7_init 71 = .ok (.aload_n 0, 1) := by decide +kernel
theorem dX7_init_72 : decode cX7_init 72 = .ok (.getfield 21, 3) := by decide +kernel
theorem dX7_init_75 : decode cX7_init 75 = .ok (.iload_n 1, 1) := by decide +kernel
theorem dX7_init_76 : decode cX7_init 76 = .ok (.new 19, 3) := by decide +kernel
theorem dX7_init_79 : decode cX7_init 79 = .ok (.dup, 1) := by decide +kernel
theorem dX7_init_80 : decode cX7_init 80 = .ok (.invokespecial 43, 3) := by decide +kernel
theorem dX7_init_83 : decode cX7_init 83 = .ok (.aastore, 1) := by decide +kernel
theorem dX7_init_84 : decode cX7_init 84 = .ok (.iinc 1 1, 3) := by decide +kernel
theorem dX7_init_87 : decode cX7_init 87 = .ok (.goto (-21), 3) := by decide +kernel
theorem dX7_init_90 : decode cX7_init 90 = .ok (.return_, 1) := by decide +kernel
theorem dX7_thing_0 : decode cX7_thing 0 = .ok (.iload_n 1, 1) := by decide +kernel
theorem dX7_thing_1 : decode cX7_thing 1 = .ok (.invokestatic 44, 3) := by decide +kernel
theorem dX7_thing_4 : decode cX7_thing 4 = .ok (.ifCond .eq 21, 3) := by decide +kernel
theorem dX7_thing_7 : decode cX7_thing 7 = .ok (.iload_n 2, 1) := by decide +kernel
theorem dX7_thing_8 : decode cX7_thing 8 = .ok (.invokestatic 48, 3) := by decide +kernel
theorem dX7_thing_11 : decode cX7_thing 11 = .ok (.ifCond .eq 14, 3) := by decide +kernel
theorem dX7_thing_14 : decode cX7_thing 14 = .ok (.iload_n 3, 1) := by decide +kernel
theorem dX7_thing_15 : decode cX7_thing 15 = .ok (.iconst 1, 1) := by decide +kernel
theorem dX7_thing_16 : decode cX7_thing 16 = .ok (.if_icmp .lt 9, 3) := by decide +kernel
theorem dX7_thing_19 : decode cX7_thing 19 = .ok (.iload_n 3, 1) := by decide +kernel
theorem dX7_thing_20 : decode cX7_thing 20 = .ok (.bipush 9, 2) := by decide +kernel
theorem dX7_thing_22 : decode cX7_thing 22 = .ok (.if_icmp .le 10, 3) := by decide +kernel
theorem dX7_thing_25 : decode cX7_thing 25 = .ok (.aload_n 0, 1) := by decide +kernel
theorem dX7_thing_26 : decode cX7_thing 26 = .ok (.ldc 51, 2) := by decide +kernel
theorem dX7_thing_28 : decode cX7_thing 28 = .ok (.invokevirtual 52, 3) := by decide +kernel
theorem dX7_thing_31 : decode cX7_thing 31 = .ok (.ireturn, 1) := by decide +kernel
theorem dX7_thing_32 : decode cX7_thing 32 = .ok (.aload_n 0, 1) := by decide +kernel
theorem dX7_thing_33 : decode cX7_thing 33 = .ok (.getfield 12, 3) := by decide +kernel
theorem dX7_thing_36 : decode cX7_thing 36 = .ok (.getfield 56, 3) := by decide +kernel
theorem dX7_thing_39 : decode cX7_thing 39 = .ok (.bipush 9, 2) := by decide +kernel
theorem dX7_thing_41 : decode cX7_thing 41 = .ok (.if_icmp .lt 10, 3) := by decide +kernel
theorem dX7_thing_44 : decode cX7_thing 44 = .ok (.aload_n 0, 1) := by decide +kernel
theorem dX7_thing_45 : decode cX7_thing 45 = .ok (.ldc 60, 2) := by decide +kernel
theorem dX7_thing_47 : decode cX7_thing 47 = .ok (.invokevirtual 52, 3) := by decide +kernel
theorem dX7_thing_50 : decode cX7_thing 50 = .ok (.ireturn, 1) := by decide +kernel
theorem dX7_thing_51 : decode cX7_thing 51 = .ok (.aload_n 0, 1) := by decide +kernel
theorem dX7_thing_52 : decode cX7_thing 52 = .ok (.getfield 12, 3) := by decide +kernel
theorem dX7_thing_55 : decode cX7_thing 55 = .ok (.iload_n 1, 1) := by decide +kernel
theorem dX7_thing_56 : decode cX7_thing 56 = .ok (.iload_n 2, 1) := by decide +kernel
theorem dX7_thing_57 : decode cX7_thing 57 = .ok (.iload_n 3, 1) := by decide +kernel
theorem dX7_thing_58 : decode cX7_thing 58 = .ok (.invokevirtual 61, 3) := by decide +kernel
theorem dX7_thing_61 : decode cX7_thing 61 = .ok (.ireturn, 1) := by decide +kernel
theorem dX7_thingIs_0 : decode cX7_thingIs 0 = .ok (.aload_n 0, 1) := by decide +kernel
theorem dX7_thingIs_1 : decode cX7_thingIs 1 = .ok (.getfield 12, 3) := by decide +kernel
theorem dX7_thingIs_4 : decode cX7_thingIs 4 = .ok (.iload_n 1, 1) := by decide +kernel
theorem dX7_thingIs_5 : decode cX7_thingIs 5 = .ok (.invokevirtual 65, 3) := by decide +kernel
theorem dX7_thingIs_8 : decode cX7_thingIs 8 = .ok (.ifCond .ne 10, 3) := by decide +kernel
theorem dX7_thingIs_11 : decode cX7_thingIs 11 = .ok (.aload_n 0, 1) := by decide +kernel
theorem dX7_thingIs_12 : decode cX7_thingIs 12 = .ok (.ldc 51, 2) := by decide +kernel
theorem dX7_thingIs_14 : decode cX7_thingIs 14 = .ok (.invokevirtual 52, 3) := by decide +kernel
theorem dX7_thingIs_17 : decode cX7_thingIs 17 = .ok (.ireturn, 1) := by decide +kernel
theorem dX7_thingIs_18 : decode cX7_thingIs 18 = .ok (.aload_n 0, 1) := by decide +kernel
theorem dX7_thingIs_19 : decode cX7_thingIs 19 = .ok (.getfield 12, 3) := by decide +kernel
theorem dX7_thingIs_22 : decode cX7_thingIs 22 = .ok (.getfield 68, 3) := by decide +kernel
theorem dX7_thingIs_25 : decode cX7_thingIs 25 = .ok (.iload_n 1, 1) := by decide +kernel
theorem dX7_thingIs_26 : decode cX7_thingIs 26 = .ok (.aaload, 1) := by decide +kernel
theorem dX7_thingIs_27 : decode cX7_thingIs 27 = .ok (.astore_n 3, 1) := by decide +kernel
theorem dX7_thingIs_28 : decode cX7_thingIs 28 = .ok (.iload_n 2, 1) := by decide +kernel
theorem dX7_thingIs_29 : decode cX7_thingIs 29 = .ok (.tableswitch 89 0 6 #[43, 48, 53, 58, 63, 72, 84], 43) := by decide +kernel
theorem dX7_thingIs_72 : decode cX7_thingIs 72 = .ok (.aload_n 3, 1) := by decide +kernel
theorem dX7_thingIs_73 : decode cX7_thingIs 73 = .ok (.getfield 72, 3) := by decide +kernel
theorem dX7_thingIs_76 : decode cX7_thingIs 76 = .ok (.ireturn, 1) := by decide +kernel
theorem dX7_thingIs_77 : decode cX7_thingIs 77 = .ok (.aload_n 3, 1) := by decide +kernel
theorem dX7_thingIs_78 : decode cX7_thingIs 78 = .ok (.getfield 77, 3) := by decide +kernel
theorem dX7_thingIs_81 : decode cX7_thingIs 81 = .ok (.ireturn, 1) := by decide +kernel
theorem dX7_thingIs_82 : decode cX7_thingIs 82 = .ok (.aload_n 3, 1) := by decide +kernel
theorem dX7_thingIs_83 : decode cX7_thingIs 83 = .ok (.getfield 80, 3) := by decide +kernel
theorem dX7_thingIs_86 : decode cX7_thingIs 86 = .ok (.ireturn, 1) := by decide +kernel
theorem dX7_thingIs_87 : decode cX7_thingIs 87 = .ok (.aload_n 3, 1) := by decide +kernel
theorem dX7_thingIs_88 : decode cX7_thingIs 88 = .ok (.getfield 83, 3) := by decide +kernel
theorem dX7_thingIs_91 : decode cX7_thingIs 91 = .ok (.ireturn, 1) := by decide +kernel
theorem dX7_thingIs_92 : decode cX7_thingIs 92 = .ok (.aload_n 0, 1) := by decide +kernel
theorem dX7_thingIs_93 : decode cX7_thingIs 93 = .ok (.getfield 12, 3) := by decide +kernel
theorem dX7_thingIs_96 : decode cX7_thingIs 96 = .ok (.iload_n 1, 1) := by decide +kernel
theorem dX7_thingIs_97 : decode cX7_thingIs 97 = .ok (.invokevirtual 86, 3) := by decide +kernel
theorem dX7_thingIs_100 : decode cX7_thingIs 100 = .ok (.ireturn, 1) := by decide +kernel
theorem dX7_thingIs_101 : decode cX7_thingIs 101 = .ok (.aload_n 3, 1) := by decide +kernel
theorem dX7_thingIs_102 : decode cX7_thingIs 102 = .ok (.aload_n 0, 1) := by decide +kernel
theorem dX7_thingIs_103 : decode cX7_thingIs 103 = .ok (.getfield 12, 3) := by decide +kernel
theorem dX7_thingIs_106 : decode cX7_thingIs 106 = .ok (.getfield 89, 3) := by decide +kernel
theorem dX7_thingIs_109 : decode cX7_thingIs 109 = .ok (.invokevirtual 92, 3) := by decide +kernel
theorem dX7_thingIs_112 : decode cX7_thingIs 112 = .ok (.ireturn, 1) := by decide +kernel
theorem dX7_thingIs_113 : decode cX7_thingIs 113 = .ok (.aload_n 3, 1) := by decide +kernel
theorem dX7_thingIs_114 : decode cX7_thingIs 114 = .ok (.invokevirtual 95, 3) := by decide +kernel
theorem dX7_thingIs_117 : decode cX7_thingIs 117 = .ok (.ireturn, 1) := by decide +kernel
theorem dX7_thingIs_118 : decode cX7_thingIs 118 = .ok (.aload_n 0, 1) := by decide +kernel
theorem dX7_thingIs_119 : decode cX7_thingIs 119 = .ok (.ldc 51, 2) := by decide +kernel
theorem dX7_thingIs_121 : decode cX7_thingIs 121 = .ok (.invokevirtual 52, 3) := by decide +kernel
theorem dX7_thingIs_124 : decode cX7_thingIs 124 = .ok (.ireturn, 1) := by decide +kernel
theorem dX7_become_0 : decode cX7_become 0 = .ok (.aload_n 0, 1) := by decide +kernel
theorem dX7_become_1 : decode cX7_become 1 = .ok (.getfield 12, 3) := by decide +kernel
theorem dX7_become_4 : decode cX7_become 4 = .ok (.iload_n 1, 1) := by decide +kernel
theorem dX7_become_5 : decode cX7_become 5 = .ok (.invokevirtual 65, 3) := by decide +kernel
theorem dX7_become_8 : decode cX7_become 8 = .ok (.ifCond .eq 10, 3) := by decide +kernel
theorem dX7_become_11 : decode cX7_become 11 = .ok (.iload_n 2, 1) := by decide +kernel
theorem dX7_become_12 : decode cX7_become 12 = .ok (.invokestatic 44, 3) := by decide +kernel
theorem dX7_become_15 : decode cX7_become 15 = .ok (.ifCond .ne 10, 3) := by decide +kernel
theorem dX7_become_18 : decode cX7_become 18 = .ok (.aload_n 0, 1) := by decide +kernel
theorem dX7_become_19 : decode cX7_become 19 = .ok (.ldc 51, 2) := by decide +kernel
theorem dX7_become_21 : decode cX7_become 21 = .ok (.invokevirtual 52, 3) := by decide +kernel
theorem dX7_become_24 : decode cX7_become 24 = .ok (.ireturn, 1) := by decide +kernel
theorem dX7_become_25 : decode cX7_become 25 = .ok (.aload_n 0, 1) := by decide +kernel
theorem dX7_become_26 : decode cX7_become 26 = .ok (.getfield 12, 3) := by decide +kernel
theorem dX7_become_29 : decode cX7_become 29 = .ok (.getfield 68, 3) := by decide +kernel
theorem dX7_become_32 : decode cX7_become 32 = .ok (.iload_n 1, 1) := by decide +kernel
theorem dX7_become_33 : decode cX7_become 33 = .ok (.aaload, 1) := by decide +kernel
theorem dX7_become_34 : decode cX7_become 34 = .ok (.astore_n 3, 1) := by decide +kernel
theorem dX7_become_35 : decode cX7_become 35 = .ok (.aload_n 3, 1) := by decide +kernel
theorem dX7_become_36 : decode cX7_become 36 = .ok (.getfield 72, 3) := by decide +kernel
theorem dX7_become_39 : decode cX7_become 39 = .ok (.istore 4, 2) := by decide +kernel
theorem dX7_become_41 : decode cX7_become 41 = .ok (.aload_n 3, 1) := by decide +kernel
theorem dX7_become_42 : decode cX7_become 42 = .ok (.iload_n 2, 1) := by decide +kernel
theorem dX7_become_43 : decode cX7_become 43 = .ok (.bipush 10, 2) := by decide +kernel
theorem dX7_become_45 : decode cX7_become 45 = .ok (.idiv, 1) := by decide +kernel
theorem dX7_become_46 : decode cX7_become 46 = .ok (.putfield 72, 3) := by decide +kernel
theorem dX7_become_49 : decode cX7_become 49 = .ok (.aload_n 3, 1) := by decide +kernel
theorem dX7_become_50 : decode cX7_become 50 = .ok (.iload_n 2, 1) := by decide +kernel
theorem dX7_become_51 : decode cX7_become 51 = .ok (.bipush 10, 2) := by decide +kernel
theorem dX7_become_53 : decode cX7_become 53 = .ok (.irem, 1) := by decide +kernel
theorem dX7_become_54 : decode cX7_become 54 = .ok (.putfield 77, 3) := by decide +kernel
theorem dX7_become_57 : decode cX7_become 57 = .ok (.iload 4, 2) := by decide +kernel
theorem dX7_become_59 : decode cX7_become 59 = .ok (.ireturn, 1) := by decide +kernel
theorem dX7_as_0 : decode cX7_as 0 = .ok (.aload_n 0, 1) := by decide +kernel
theorem dX7_as_1 : decode cX7_as 1 = .ok (.getfield 12, 3) := by decide +kernel
theorem dX7_as_4 : decode cX7_as 4 = .ok (.iload_n 1, 1) := by decide +kernel
theorem dX7_as_5 : decode cX7_as 5 = .ok (.invokevirtual 65, 3) := by decide +kernel
theorem dX7_as_8 : decode cX7_as 8 = .ok (.ifCond .eq 13, 3) := by decide +kernel
theorem dX7_as_11 : decode cX7_as 11 = .ok (.iload_n 2, 1) := by decide +kernel
theorem dX7_as_12 : decode cX7_as 12 = .ok (.ifCond .lt 9, 3) := by decide +kernel
theorem dX7_as_15 : decode cX7_as 15 = .ok (.iload_n 2, 1) := by decide +kernel
theorem dX7_as_16 : decode cX7_as 16 = .ok (.bipush 7, 2) := by decide +kernel
theorem dX7_as_18 : decode cX7_as 18 = .ok (.if_icmp .lt 10, 3) := by decide +kernel
theorem dX7_as_21 : decode cX7_as 21 = .ok (.aload_n 0, 1) := by decide +kernel
theorem dX7_as_22 : decode cX7_as 22 = .ok (.ldc 51, 2) := by decide +kernel
theorem dX7_as_24 : decode cX7_as 24 = .ok (.invokevirtual 52, 3) := by decide +kernel
theorem dX7_as_27 : decode cX7_as 27 = .ok (.ireturn, 1) := by decide +kernel
theorem dX7_as_28 : decode cX7_as 28 = .ok (.aload_n 0, 1) := by decide +kernel
theorem dX7_as_29 : decode cX7_as 29 = .ok (.getfield 12, 3) := by decide +kernel
theorem dX7_as_32 : decode cX7_as 32 = .ok (.getfield 68, 3) := by decide +kernel
theorem dX7_as_35 : decode cX7_as 35 = .ok (.iload_n 1, 1) := by decide +kernel
theorem dX7_as_36 : decode cX7_as 36 = .ok (.aaload, 1) := by decide +kernel
theorem dX7_as_37 : decode cX7_as 37 = .ok (.iload_n 2, 1) := by decide +kernel
theorem dX7_as_38 : decode cX7_as 38 = .ok (.invokevirtual 99, 3) := by decide +kernel
theorem dX7_as_41 : decode cX7_as 41 = .ok (.ifCond .ne 10, 3) := by decide +kernel
theorem dX7_as_44 : decode cX7_as 44 = .ok (.aload_n 0, 1) := by decide +kernel
theorem dX7_as_45 : decode cX7_as 45 = .ok (.ldc 102, 2) := by decide +kernel
theorem dX7_as_47 : decode cX7_as 47 = .ok (.invokevirtual 52, 3) := by decide +kernel
theorem dX7_as_50 : decode cX7_as 50 = .ok (.ireturn, 1) := by decide +kernel
theorem dX7_as_51 : decode cX7_as 51 = .ok (.aload_n 0, 1) := by decide +kernel
theorem dX7_as_52 : decode cX7_as 52 = .ok (.getfield 12, 3) := by decide +kernel
theorem dX7_as_55 : decode cX7_as 55 = .ok (.getfield 68, 3) := by decide +kernel
theorem dX7_as_58 : decode cX7_as 58 = .ok (.iload_n 1, 1) := by decide +kernel
theorem dX7_as_59 : decode cX7_as 59 = .ok (.aaload, 1) := by decide +kernel
theorem dX7_as_60 : decode cX7_as 60 = .ok (.getfield 77, 3) := by decide +kernel
theorem dX7_as_63 : decode cX7_as 63 = .ok (.ireturn, 1) := by decide +kernel
theorem dX7_weigh_0 : decode cX7_weigh 0 = .ok (.aload_n 0, 1) := by decide +kernel
theorem dX7_weigh_1 : decode cX7_weigh 1 = .ok (.getfield 12, 3) := by decide +kernel
theorem dX7_weigh_4 : decode cX7_weigh 4 = .ok (.iload_n 1, 1) := by decide +kernel
theorem dX7_weigh_5 : decode cX7_weigh 5 = .ok (.invokevirtual 65, 3) := by decide +kernel
theorem dX7_weigh_8 : decode cX7_weigh 8 = .ok (.ifCond .eq 10, 3) := by decide +kernel
theorem dX7_weigh_11 : decode cX7_weigh 11 = .ok (.iload_n 2, 1) := by decide +kernel
theorem dX7_weigh_12 : decode cX7_weigh 12 = .ok (.invokestatic 48, 3) := by decide +kernel
theorem dX7_weigh_15 : decode cX7_weigh 15 = .ok (.ifCond .ne 10, 3) := by decide +kernel
theorem dX7_weigh_18 : decode cX7_weigh 18 = .ok (.aload_n 0, 1) := by decide +kernel
theorem dX7_weigh_19 : decode cX7_weigh 19 = .ok (.ldc 51, 2) := by decide +kernel
theorem dX7_weigh_21 : decode cX7_weigh 21 = .ok (.invokevirtual 52, 3) := by decide +kernel
theorem dX7_weigh_24 : decode cX7_weigh 24 = .ok (.ireturn, 1) := by decide +kernel
theorem dX7_weigh_25 : decode cX7_weigh 25 = .ok (.aload_n 0, 1) := by decide +kernel
theorem dX7_weigh_26 : decode cX7_weigh 26 = .ok (.getfield 12, 3) := by decide +kernel
theorem dX7_weigh_29 : decode cX7_weigh 29 = .ok (.getfield 68, 3) := by decide +kernel
theorem dX7_weigh_32 : decode cX7_weigh 32 = .ok (.iload_n 1, 1) := by decide +kernel
theorem dX7_weigh_33 : decode cX7_weigh 33 = .ok (.aaload, 1) := by decide +kernel
theorem dX7_weigh_34 : decode cX7_weigh 34 = .ok (.getfield 80, 3) := by decide +kernel
theorem dX7_weigh_37 : decode cX7_weigh 37 = .ok (.istore_n 3, 1) := by decide +kernel
theorem dX7_weigh_38 : decode cX7_weigh 38 = .ok (.aload_n 0, 1) := by decide +kernel
theorem dX7_weigh_39 : decode cX7_weigh 39 = .ok (.getfield 12, 3) := by decide +kernel
theorem dX7_weigh_42 : decode cX7_weigh 42 = .ok (.getfield 68, 3) := by decide +kernel
theorem dX7_weigh_45 : decode cX7_weigh 45 = .ok (.iload_n 1, 1) := by decide +kernel
theorem dX7_weigh_46 : decode cX7_weigh 46 = .ok (.aaload, 1) := by decide +kernel
theorem dX7_weigh_47 : decode cX7_weigh 47 = .ok (.iload_n 2, 1) := by decide +kernel
theorem dX7_weigh_48 : decode cX7_weigh 48 = .ok (.putfield 80, 3) := by decide +kernel
theorem dX7_weigh_51 : decode cX7_weigh 51 = .ok (.iload_n 3, 1) := by decide +kernel
theorem dX7_weigh_52 : decode cX7_weigh 52 = .ok (.ireturn, 1) := by decide +kernel
theorem dX7_at_0 : decode cX7_at 0 = .ok (.aload_n 0, 1) := by decide +kernel
theorem dX7_at_1 : decode cX7_at 1 = .ok (.getfield 12, 3) := by decide +kernel
theorem dX7_at_4 : decode cX7_at 4 = .ok (.getfield 103, 3) := by decide +kernel
theorem dX7_at_7 : decode cX7_at 7 = .ok (.iload_n 1, 1) := by decide +kernel
theorem dX7_at_8 : decode cX7_at 8 = .ok (.invokevirtual 107, 3) := by decide +kernel
theorem dX7_at_11 : decode cX7_at 11 = .ok (.ifCond .ne 10, 3) := by decide +kernel
theorem dX7_at_14 : decode cX7_at 14 = .ok (.aload_n 0, 1) := by decide +kernel
theorem dX7_at_15 : decode cX7_at 15 = .ok (.ldc 51, 2) := by decide +kernel
theorem dX7_at_17 : decode cX7_at 17 = .ok (.invokevirtual 52, 3) := by decide +kernel
theorem dX7_at_20 : decode cX7_at 20 = .ok (.ireturn, 1) := by decide +kernel
theorem dX7_at_21 : decode cX7_at 21 = .ok (.aload_n 0, 1) := by decide +kernel
theorem dX7_at_22 : decode cX7_at 22 = .ok (.getfield 12, 3) := by decide +kernel
theorem dX7_at_25 : decode cX7_at 25 = .ok (.getfield 103, 3) := by decide +kernel
theorem dX7_at_28 : decode cX7_at 28 = .ok (.getfield 112, 3) := by decide +kernel
theorem dX7_at_31 : decode cX7_at 31 = .ok (.iload_n 1, 1) := by decide +kernel
theorem dX7_at_32 : decode cX7_at 32 = .ok (.iaload, 1) := by decide +kernel
theorem dX7_at_33 : decode cX7_at 33 = .ok (.ireturn, 1) := by decide +kernel
theorem dX7_leave_0 : decode cX7_leave 0 = .ok (.aload_n 0, 1) := by decide +kernel
theorem dX7_leave_1 : decode cX7_leave 1 = .ok (.getfield 12, 3) := by decide +kernel
theorem dX7_leave_4 : decode cX7_leave 4 = .ok (.iload_n 1, 1) := by decide +kernel
theorem dX7_leave_5 : decode cX7_leave 5 = .ok (.invokevirtual 65, 3) := by decide +kernel
theorem dX7_leave_8 : decode cX7_leave 8 = .ok (.ifCond .ne 10, 3) := by decide +kernel
theorem dX7_leave_11 : decode cX7_leave 11 = .ok (.aload_n 0, 1) := by decide +kernel
theorem dX7_leave_12 : decode cX7_leave 12 = .ok (.ldc 51, 2) := by decide +kernel
theorem dX7_leave_14 : decode cX7_leave 14 = .ok (.invokevirtual 52, 3) := by decide +kernel
theorem dX7_leave_17 : decode cX7_leave 17 = .ok (.ireturn, 1) := by decide +kernel
theorem dX7_leave_18 : decode cX7_leave 18 = .ok (.aload_n 0, 1) := by decide +kernel
theorem dX7_leave_19 : decode cX7_leave 19 = .ok (.getfield 12, 3) := by decide +kernel
theorem dX7_leave_22 : decode cX7_leave 22 = .ok (.iload_n 1, 1) := by decide +kernel
theorem dX7_leave_23 : decode cX7_leave 23 = .ok (.invokevirtual 86, 3) := by decide +kernel
theorem dX7_leave_26 : decode cX7_leave 26 = .ok (.bipush (-2), 2) := by decide +kernel
theorem dX7_leave_28 : decode cX7_leave 28 = .ok (.if_icmp .ne 10, 3) := by decide +kernel
theorem dX7_leave_31 : decode cX7_leave 31 = .ok (.aload_n 0, 1) := by decide +kernel
theorem dX7_leave_32 : decode cX7_leave 32 = .ok (.ldc 115, 2) := by decide +kernel
theorem dX7_leave_34 : decode cX7_leave 34 = .ok (.invokevirtual 52, 3) := by decide +kernel
theorem dX7_leave_37 : decode cX7_leave 37 = .ok (.ireturn, 1) := by decide +kernel
theorem dX7_leave_38 : decode cX7_leave 38 = .ok (.aload_n 0, 1) := by decide +kernel
theorem dX7_leave_39 : decode cX7_leave 39 = .ok (.getfield 12, 3) := by decide +kernel
theorem dX7_leave_42 : decode cX7_leave 42 = .ok (.iload_n 1, 1) := by decide +kernel
theorem dX7_leave_43 : decode cX7_leave 43 = .ok (.invokevirtual 116, 3) := by decide +kernel
theorem dX7_leave_46 : decode cX7_leave 46 = .ok (.aload_n 0, 1) := by decide +kernel
theorem dX7_leave_47 : decode cX7_leave 47 = .ok (.getfield 12, 3) := by decide +kernel
theorem dX7_leave_50 : decode cX7_leave 50 = .ok (.getfield 103, 3) := by decide +kernel
theorem dX7_leave_53 : decode cX7_leave 53 = .ok (.getfield 120, 3) := by decide +kernel
theorem dX7_leave_56 : decode cX7_leave 56 = .ok (.ireturn, 1) := by decide +kernel
theorem dX7_stow_0 : decode cX7_stow 0 = .ok (.aload_n 0, 1) := by decide +kernel
theorem dX7_stow_1 : decode cX7_stow 1 = .ok (.getfield 12, 3) := by decide +kernel
theorem dX7_stow_4 : decode cX7_stow 4 = .ok (.iload_n 1, 1) := by decide +kernel
theorem dX7_stow_5 : decode cX7_stow 5 = .ok (.invokevirtual 65, 3) := by decide +kernel
theorem dX7_stow_8 : decode cX7_stow 8 = .ok (.ifCond .ne 10, 3) := by decide +kernel
theorem dX7_stow_11 : decode cX7_stow 11 = .ok (.aload_n 0, 1) := by decide +kernel
theorem dX7_stow_12 : decode cX7_stow 12 = .ok (.ldc 51, 2) := by decide +kernel
theorem dX7_stow_14 : decode cX7_stow 14 = .ok (.invokevirtual 52, 3) := by decide +kernel
theorem dX7_stow_17 : decode cX7_stow 17 = .ok (.ireturn, 1) := by decide +kernel
theorem dX7_stow_18 : decode cX7_stow 18 = .ok (.aload_n 0, 1) := by decide +kernel
theorem dX7_stow_19 : decode cX7_stow 19 = .ok (.getfield 12, 3) := by decide +kernel
theorem dX7_stow_22 : decode cX7_stow 22 = .ok (.iload_n 1, 1) := by decide +kernel
theorem dX7_stow_23 : decode cX7_stow 23 = .ok (.invokevirtual 86, 3) := by decide +kernel
theorem dX7_stow_26 : decode cX7_stow 26 = .ok (.bipush (-2), 2) := by decide +kernel
theorem dX7_stow_28 : decode cX7_stow 28 = .ok (.if_icmp .eq 10, 3) := by decide +kernel
theorem dX7_stow_31 : decode cX7_stow 31 = .ok (.aload_n 0, 1) := by decide +kernel
theorem dX7_stow_32 : decode cX7_stow 32 = .ok (.ldc 115, 2) := by decide +kernel
theorem dX7_stow_34 : decode cX7_stow 34 = .ok (.invokevirtual 52, 3) := by decide +kernel
theorem dX7_stow_37 : decode cX7_stow 37 = .ok (.ireturn, 1) := by decide +kernel
theorem dX7_stow_38 : decode cX7_stow 38 = .ok (.aload_n 0, 1) := by decide +kernel
theorem dX7_stow_39 : decode cX7_stow 39 = .ok (.getfield 12, 3) := by decide +kernel
theorem dX7_stow_42 : decode cX7_stow 42 = .ok (.getfield 103, 3) := by decide +kernel
theorem dX7_stow_45 : decode cX7_stow 45 = .ok (.iload_n 1, 1) := by decide +kernel
theorem dX7_stow_46 : decode cX7_stow 46 = .ok (.invokevirtual 123, 3) := by decide +kernel
theorem dX7_stow_49 : decode cX7_stow 49 = .ok (.aload_n 0, 1) := by decide +kernel
theorem dX7_stow_50 : decode cX7_stow 50 = .ok (.getfield 12, 3) := by decide +kernel
theorem dX7_stow_53 : decode cX7_stow 53 = .ok (.getfield 103, 3) := by decide +kernel
theorem dX7_stow_56 : decode cX7_stow 56 = .ok (.getfield 120, 3) := by decide +kernel
theorem dX7_stow_59 : decode cX7_stow 59 = .ok (.ireturn, 1) := by decide +kernel
theorem dX7_zip_0 : decode cX7_zip 0 = .ok (.iload_n 1, 1) := by decide +kernel
theorem dX7_zip_1 : decode cX7_zip 1 = .ok (.iconst (-1), 1) := by decide +kernel
theorem dX7_zip_2 : decode cX7_zip 2 = .ok (.if_icmp .eq 21, 3) := by decide +kernel
theorem dX7_zip_5 : decode cX7_zip 5 = .ok (.aload_n 0, 1) := by decide +kernel
theorem dX7_zip_6 : decode cX7_zip 6 = .ok (.getfield 12, 3) := by decide +kernel
theorem dX7_zip_9 : decode cX7_zip 9 = .ok (.iload_n 1, 1) := by decide +kernel
theorem dX7_zip_10 : decode cX7_zip 10 = .ok (.invokevirtual 65, 3) := by decide +kernel
theorem dX7_zip_13 : decode cX7_zip 13 = .ok (.ifCond .ne 10, 3) := by decide +kernel
theorem dX7_zip_16 : decode cX7_zip 16 = .ok (.aload_n 0, 1) := by decide +kernel
theorem dX7_zip_17 : decode cX7_zip 17 = .ok (.ldc 51, 2) := by decide +kernel
theorem dX7_zip_19 : decode cX7_zip 19 = .ok (.invokevirtual 52, 3) := by decide +kernel
theorem dX7_zip_22 : decode cX7_zip 22 = .ok (.ireturn, 1) := by decide +kernel
theorem dX7_zip_23 : decode cX7_zip 23 = .ok (.iload_n 1, 1) := by decide +kernel
theorem dX7_zip_24 : decode cX7_zip 24 = .ok (.iconst (-1), 1) := by decide +kernel
theorem dX7_zip_25 : decode cX7_zip 25 = .ok (.if_icmp .eq 21, 3) := by decide +kernel
theorem dX7_zip_28 : decode cX7_zip 28 = .ok (.aload_n 0, 1) := by decide +kernel
theorem dX7_zip_29 : decode cX7_zip 29 = .ok (.getfield 12, 3) := by decide +kernel
theorem dX7_zip_32 : decode cX7_zip 32 = .ok (.iload_n 1, 1) := by decide +kernel
theorem dX7_zip_33 : decode cX7_zip 33 = .ok (.invokevirtual 86, 3) := by decide +kernel
theorem dX7_zip_36 : decode cX7_zip 36 = .ok (.ifCond .ge 10, 3) := by decide +kernel
theorem dX7_zip_39 : decode cX7_zip 39 = .ok (.aload_n 0, 1) := by decide +kernel
theorem dX7_zip_40 : decode cX7_zip 40 = .ok (.ldc 115, 2) := by decide +kernel
theorem dX7_zip_42 : decode cX7_zip 42 = .ok (.invokevirtual 52, 3) := by decide +kernel
theorem dX7_zip_45 : decode cX7_zip 45 = .ok (.ireturn, 1) := by decide +kernel
theorem dX7_zip_46 : decode cX7_zip 46 = .ok (.aload_n 0, 1) := by decide +kernel
theorem dX7_zip_47 : decode cX7_zip 47 = .ok (.getfield 12, 3) := by decide +kernel
theorem dX7_zip_50 : decode cX7_zip 50 = .ok (.iload_n 1, 1) := by decide +kernel
theorem dX7_zip_51 : decode cX7_zip 51 = .ok (.invokevirtual 126, 3) := by decide +kernel
theorem dX7_zip_54 : decode cX7_zip 54 = .ok (.ireturn, 1) := by decide +kernel
theorem dX7_feed_0 : decode cX7_feed 0 = .ok (.iload_n 3, 1) := by decide +kernel
theorem dX7_feed_1 : decode cX7_feed 1 = .ok (.iconst 1, 1) := by decide +kernel
theorem dX7_feed_2 : decode cX7_feed 2 = .ok (.if_icmp .lt 9, 3) := by decide +kernel
theorem dX7_feed_5 : decode cX7_feed 5 = .ok (.iload_n 3, 1) := by decide +kernel
theorem dX7_feed_6 : decode cX7_feed 6 = .ok (.bipush 8, 2) := by decide +kernel
theorem dX7_feed_8 : decode cX7_feed 8 = .ok (.if_icmp .le 10, 3) := by decide +kernel
theorem dX7_feed_11 : decode cX7_feed 11 = .ok (.aload_n 0, 1) := by decide +kernel
theorem dX7_feed_12 : decode cX7_feed 12 = .ok (.ldc 51, 2) := by decide +kernel
theorem dX7_feed_14 : decode cX7_feed 14 = .ok (.invokevirtual 52, 3) := by decide +kernel
theorem dX7_feed_17 : decode cX7_feed 17 = .ok (.ireturn, 1) := by decide +kernel
theorem dX7_feed_18 : decode cX7_feed 18 = .ok (.aload_n 0, 1) := by decide +kernel
theorem dX7_feed_19 : decode cX7_feed 19 = .ok (.getfield 12, 3) := by decide +kernel
theorem dX7_feed_22 : decode cX7_feed 22 = .ok (.getfield 129, 3) := by decide +kernel
theorem dX7_feed_25 : decode cX7_feed 25 = .ok (.getfield 120, 3) := by decide +kernel
theorem dX7_feed_28 : decode cX7_feed 28 = .ok (.iload_n 3, 1) := by decide +kernel
theorem dX7_feed_29 : decode cX7_feed 29 = .ok (.iadd, 1) := by decide +kernel
theorem dX7_feed_30 : decode cX7_feed 30 = .ok (.bipush 60, 2) := by decide +kernel
theorem dX7_feed_32 : decode cX7_feed 32 = .ok (.if_icmp .le 10, 3) := by decide +kernel
theorem dX7_feed_35 : decode cX7_feed 35 = .ok (.aload_n 0, 1) := by decide +kernel
theorem dX7_feed_36 : decode cX7_feed 36 = .ok (.ldc 60, 2) := by decide +kernel
theorem dX7_feed_38 : decode cX7_feed 38 = .ok (.invokevirtual 52, 3) := by decide +kernel
theorem dX7_feed_41 : decode cX7_feed 41 = .ok (.ireturn, 1) := by decide +kernel
theorem dX7_feed_42 : decode cX7_feed 42 = .ok (.iconst 0, 1) := by decide +kernel
theorem dX7_feed_43 : decode cX7_feed 43 = .ok (.istore 4, 2) := by decide +kernel
theorem dX7_feed_45 : decode cX7_feed 45 = .ok (.iload 4, 2) := by decide +kernel
theorem dX7_feed_47 : decode cX7_feed 47 = .ok (.iload_n 3, 1) := by decide +kernel
theorem dX7_feed_48 : decode cX7_feed 48 = .ok (.if_icmp .ge 31, 3) := by decide +kernel
theorem dX7_feed_51 : decode cX7_feed 51 = .ok (.aload_n 0, 1) := by decide +kernel
theorem dX7_feed_52 : decode cX7_feed 52 = .ok (.getfield 12, 3) := by decide +kernel
theorem dX7_feed_55 : decode cX7_feed 55 = .ok (.getfield 129, 3) := by decide +kernel
theorem dX7_feed_58 : decode cX7_feed 58 = .ok (.lload_n 1, 1) := by decide +kernel
theorem dX7_feed_59 : decode cX7_feed 59 = .ok (.bipush 8, 2) := by decide +kernel
theorem dX7_feed_61 : decode cX7_feed 61 = .ok (.iload 4, 2) := by decide +kernel
theorem dX7_feed_63 : decode cX7_feed 63 = .ok (.imul, 1) := by decide +kernel
theorem dX7_feed_64 : decode cX7_feed 64 = .ok (.lushr, 1) := by decide +kernel
theorem dX7_feed_65 : decode cX7_feed 65 = .ok (.ldc2_w 132, 3) := by decide +kernel
theorem dX7_feed_68 : decode cX7_feed 68 = .ok (.land, 1) := by decide +kernel
theorem dX7_feed_69 : decode cX7_feed 69 = .ok (.l2i, 1) := by decide +kernel
theorem dX7_feed_70 : decode cX7_feed 70 = .ok (.invokevirtual 134, 3) := by decide +kernel
theorem dX7_feed_73 : decode cX7_feed 73 = .ok (.iinc 4 1, 3) := by decide +kernel
theorem dX7_feed_76 : decode cX7_feed 76 = .ok (.goto (-31), 3) := by decide +kernel
theorem dX7_feed_79 : decode cX7_feed 79 = .ok (.aload_n 0, 1) := by decide +kernel
theorem dX7_feed_80 : decode cX7_feed 80 = .ok (.getfield 12, 3) := by decide +kernel
theorem dX7_feed_83 : decode cX7_feed 83 = .ok (.getfield 129, 3) := by decide +kernel
theorem dX7_feed_86 : decode cX7_feed 86 = .ok (.getfield 120, 3) := by decide +kernel
theorem dX7_feed_89 : decode cX7_feed 89 = .ok (.ireturn, 1) := by decide +kernel
theorem dX7_text_0 : decode cX7_text 0 = .ok (.iload_n 1, 1) := by decide +kernel
theorem dX7_text_1 : decode cX7_text 1 = .ok (.invokestatic 137, 3) := by decide +kernel
theorem dX7_text_4 : decode cX7_text 4 = .ok (.ifCond .ne 10, 3) := by decide +kernel
theorem dX7_text_7 : decode cX7_text 7 = .ok (.aload_n 0, 1) := by decide +kernel
theorem dX7_text_8 : decode cX7_text 8 = .ok (.ldc 51, 2) := by decide +kernel
theorem dX7_text_10 : decode cX7_text 10 = .ok (.invokevirtual 52, 3) := by decide +kernel
theorem dX7_text_13 : decode cX7_text 13 = .ok (.ireturn, 1) := by decide +kernel
theorem dX7_text_14 : decode cX7_text 14 = .ok (.aload_n 0, 1) := by decide +kernel
theorem dX7_text_15 : decode cX7_text 15 = .ok (.getfield 12, 3) := by decide +kernel
theorem dX7_text_18 : decode cX7_text 18 = .ok (.getfield 140, 3) := by decide +kernel
theorem dX7_text_21 : decode cX7_text 21 = .ok (.iload_n 1, 1) := by decide +kernel
theorem dX7_text_22 : decode cX7_text 22 = .ok (.aaload, 1) := by decide +kernel
theorem dX7_text_23 : decode cX7_text 23 = .ok (.aload_n 0, 1) := by decide +kernel
theorem dX7_text_24 : decode cX7_text 24 = .ok (.getfield 12, 3) := by decide +kernel
theorem dX7_text_27 : decode cX7_text 27 = .ok (.getfield 129, 3) := by decide +kernel
theorem dX7_text_30 : decode cX7_text 30 = .ok (.iload_n 1, 1) := by decide +kernel
theorem dX7_text_31 : decode cX7_text 31 = .ok (.ifCond .ne 8, 3) := by decide +kernel
theorem dX7_text_34 : decode cX7_text 34 = .ok (.ldc 144, 2) := by decide +kernel
theorem dX7_text_36 : decode cX7_text 36 = .ok (.goto 5, 3) := by decide +kernel
theorem dX7_text_39 : decode cX7_text 39 = .ok (.ldc 146, 2) := by decide +kernel
theorem dX7_text_41 : decode cX7_text 41 = .ok (.invokevirtual 148, 3) := by decide +kernel
theorem dX7_text_44 : decode cX7_text 44 = .ok (.istore_n 2, 1) := by decide +kernel
theorem dX7_text_45 : decode cX7_text 45 = .ok (.aload_n 0, 1) := by decide +kernel
theorem dX7_text_46 : decode cX7_text 46 = .ok (.getfield 12, 3) := by decide +kernel
theorem dX7_text_49 : decode cX7_text 49 = .ok (.getfield 129, 3) := by decide +kernel
theorem dX7_text_52 : decode cX7_text 52 = .ok (.iconst 0, 1) := by decide +kernel
theorem dX7_text_53 : decode cX7_text 53 = .ok (.putfield 120, 3) := by decide +kernel
theorem dX7_text_56 : decode cX7_text 56 = .ok (.iload_n 2, 1) := by decide +kernel
theorem dX7_text_57 : decode cX7_text 57 = .ok (.ifCond .ge 7, 3) := by decide +kernel
theorem dX7_text_60 : decode cX7_text 60 = .ok (.iconst 1, 1) := by decide +kernel
theorem dX7_text_61 : decode cX7_text 61 = .ok (.goto 7, 3) := by decide +kernel
theorem dX7_text_64 : decode cX7_text 64 = .ok (.bipush (-10), 2) := by decide +kernel
theorem dX7_text_66 : decode cX7_text 66 = .ok (.iload_n 2, 1) := by decide +kernel
theorem dX7_text_67 : decode cX7_text 67 = .ok (.isub, 1) := by decide +kernel
theorem dX7_text_68 : decode cX7_text 68 = .ok (.ireturn, 1) := by decide +kernel
theorem dX7_untell_0 : decode cX7_untell 0 = .ok (.iload_n 1, 1) := by decide +kernel
theorem dX7_untell_1 : decode cX7_untell 1 = .ok (.invokestatic 137, 3) := by decide +kernel
theorem dX7_untell_4 : decode cX7_untell 4 = .ok (.ifCond .ne 10, 3) := by decide +kernel
theorem dX7_untell_7 : decode cX7_untell 7 = .ok (.aload_n 0, 1) := by decide +kernel
theorem dX7_untell_8 : decode cX7_untell 8 = .ok (.ldc 51, 2) := by decide +kernel
theorem dX7_untell_10 : decode cX7_untell 10 = .ok (.invokevirtual 52, 3) := by decide +kernel
theorem dX7_untell_13 : decode cX7_untell 13 = .ok (.ireturn, 1) := by decide +kernel
theorem dX7_untell_14 : decode cX7_untell 14 = .ok (.aload_n 0, 1) := by decide +kernel
theorem dX7_untell_15 : decode cX7_untell 15 = .ok (.getfield 12, 3) := by decide +kernel
theorem dX7_untell_18 : decode cX7_untell 18 = .ok (.getfield 140, 3) := by decide +kernel
theorem dX7_untell_21 : decode cX7_untell 21 = .ok (.iload_n 1, 1) := by decide +kernel
theorem dX7_untell_22 : decode cX7_untell 22 = .ok (.aaload, 1) := by decide +kernel
theorem dX7_untell_23 : decode cX7_untell 23 = .ok (.invokevirtual 154, 3) := by decide +kernel
theorem dX7_untell_26 : decode cX7_untell 26 = .ok (.ifCond .eq 7, 3) := by decide +kernel
theorem dX7_untell_29 : decode cX7_untell 29 = .ok (.iconst 1, 1) := by decide +kernel
theorem dX7_untell_30 : decode cX7_untell 30 = .ok (.goto 4, 3) := by decide +kernel
theorem dX7_untell_33 : decode cX7_untell 33 = .ok (.iconst 0, 1) := by decide +kernel
theorem dX7_untell_34 : decode cX7_untell 34 = .ok (.istore_n 2, 1) := by decide +kernel
theorem dX7_untell_35 : decode cX7_untell 35 = .ok (.aload_n 0, 1) := by decide +kernel
theorem dX7_untell_36 : decode cX7_untell 36 = .ok (.getfield 12, 3) := by decide +kernel
theorem dX7_untell_39 : decode cX7_untell 39 = .ok (.getfield 140, 3) := by decide +kernel
theorem dX7_untell_42 : decode cX7_untell 42 = .ok (.iload_n 1, 1) := by decide +kernel
theorem dX7_untell_43 : decode cX7_untell 43 = .ok (.aaload, 1) := by decide +kernel
theorem dX7_untell_44 : decode cX7_untell 44 = .ok (.getfield 158, 3) := by decide +kernel
theorem dX7_untell_47 : decode cX7_untell 47 = .ok (.iconst 0, 1) := by decide +kernel
theorem dX7_untell_48 : decode cX7_untell 48 = .ok (.putfield 120, 3) := by decide +kernel
theorem dX7_untell_51 : decode cX7_untell 51 = .ok (.iload_n 2, 1) := by decide +kernel
theorem dX7_untell_52 : decode cX7_untell 52 = .ok (.ireturn, 1) := by decide +kernel
theorem dX7_law_0 : decode cX7_law 0 = .ok (.iload_n 1, 1) := by decide +kernel
theorem dX7_law_1 : decode cX7_law 1 = .ok (.invokestatic 137, 3) := by decide +kernel
theorem dX7_law_4 : decode cX7_law 4 = .ok (.ifCond .ne 10, 3) := by decide +kernel
theorem dX7_law_7 : decode cX7_law 7 = .ok (.aload_n 0, 1) := by decide +kernel
theorem dX7_law_8 : decode cX7_law 8 = .ok (.ldc 51, 2) := by decide +kernel
theorem dX7_law_10 : decode cX7_law 10 = .ok (.invokevirtual 52, 3) := by decide +kernel
theorem dX7_law_13 : decode cX7_law 13 = .ok (.ireturn, 1) := by decide +kernel
theorem dX7_law_14 : decode cX7_law 14 = .ok (.aload_n 0, 1) := by decide +kernel
theorem dX7_law_15 : decode cX7_law 15 = .ok (.getfield 12, 3) := by decide +kernel
theorem dX7_law_18 : decode cX7_law 18 = .ok (.iload_n 1, 1) := by decide +kernel
theorem dX7_law_19 : decode cX7_law 19 = .ok (.iload_n 2, 1) := by decide +kernel
theorem dX7_law_20 : decode cX7_law 20 = .ok (.iload_n 3, 1) := by decide +kernel
theorem dX7_law_21 : decode cX7_law 21 = .ok (.iload 4, 2) := by decide +kernel
theorem dX7_law_23 : decode cX7_law 23 = .ok (.invokevirtual 161, 3) := by decide +kernel
theorem dX7_law_26 : decode cX7_law 26 = .ok (.ireturn, 1) := by decide +kernel
theorem dX7_seconds_0 : decode cX7_seconds 0 = .ok (.aload_n 0, 1) := by decide +kernel
theorem dX7_seconds_1 : decode cX7_seconds 1 = .ok (.getfield 12, 3) := by decide +kernel
theorem dX7_seconds_4 : decode cX7_seconds 4 = .ok (.iload_n 1, 1) := by decide +kernel
theorem dX7_seconds_5 : decode cX7_seconds 5 = .ok (.invokevirtual 65, 3) := by decide +kernel
theorem dX7_seconds_8 : decode cX7_seconds 8 = .ok (.ifCond .eq 10, 3) := by decide +kernel
theorem dX7_seconds_11 : decode cX7_seconds 11 = .ok (.iload_n 2, 1) := by decide +kernel
theorem dX7_seconds_12 : decode cX7_seconds 12 = .ok (.invokestatic 165, 3) := by decide +kernel
theorem dX7_seconds_15 : decode cX7_seconds 15 = .ok (.ifCond .ne 10, 3) := by decide +kernel
theorem dX7_seconds_18 : decode cX7_seconds 18 = .ok (.aload_n 0, 1) := by decide +kernel
theorem dX7_seconds_19 : decode cX7_seconds 19 = .ok (.ldc 51, 2) := by decide +kernel
theorem dX7_seconds_21 : decode cX7_seconds 21 = .ok (.invokevirtual 52, 3) := by decide +kernel
theorem dX7_seconds_24 : decode cX7_seconds 24 = .ok (.ireturn, 1) := by decide +kernel
theorem dX7_seconds_25 : decode cX7_seconds 25 = .ok (.aload_n 0, 1) := by decide +kernel
theorem dX7_seconds_26 : decode cX7_seconds 26 = .ok (.getfield 12, 3) := by decide +kernel
theorem dX7_seconds_29 : decode cX7_seconds 29 = .ok (.iload_n 1, 1) := by decide +kernel
theorem dX7_seconds_30 : decode cX7_seconds 30 = .ok (.invokevirtual 86, 3) := by decide +kernel
theorem dX7_seconds_33 : decode cX7_seconds 33 = .ok (.bipush (-2), 2) := by decide +kernel
theorem dX7_seconds_35 : decode cX7_seconds 35 = .ok (.if_icmp .ne 10, 3) := by decide +kernel
theorem dX7_seconds_38 : decode cX7_seconds 38 = .ok (.aload_n 0, 1) := by decide +kernel
theorem dX7_seconds_39 : decode cX7_seconds 39 = .ok (.ldc 115, 2) := by decide +kernel
theorem dX7_seconds_41 : decode cX7_seconds 41 = .ok (.invokevirtual 52, 3) := by decide +kernel
theorem dX7_seconds_44 : decode cX7_seconds 44 = .ok (.ireturn, 1) := by decide +kernel
theorem dX7_seconds_45 : decode cX7_seconds 45 = .ok (.aload_n 0, 1) := by decide +kernel
theorem dX7_seconds_46 : decode cX7_seconds 46 = .ok (.getfield 12, 3) := by decide +kernel
theorem dX7_seconds_49 : decode cX7_seconds 49 = .ok (.iload_n 1, 1) := by decide +kernel
theorem dX7_seconds_50 : decode cX7_seconds 50 = .ok (.iload_n 2, 1) := by decide +kernel
theorem dX7_seconds_51 : decode cX7_seconds 51 = .ok (.invokevirtual 168, 3) := by decide +kernel
theorem dX7_seconds_54 : decode cX7_seconds 54 = .ok (.ireturn, 1) := by decide +kernel
theorem dX7_best_0 : decode cX7_best 0 = .ok (.aload_n 0, 1) := by decide +kernel
theorem dX7_best_1 : decode cX7_best 1 = .ok (.getfield 12, 3) := by decide +kernel
theorem dX7_best_4 : decode cX7_best 4 = .ok (.iload_n 1, 1) := by decide +kernel
theorem dX7_best_5 : decode cX7_best 5 = .ok (.invokevirtual 65, 3) := by decide +kernel
theorem dX7_best_8 : decode cX7_best 8 = .ok (.ifCond .eq 12, 3) := by decide +kernel
theorem dX7_best_11 : decode cX7_best 11 = .ok (.iload_n 2, 1) := by decide +kernel
theorem dX7_best_12 : decode cX7_best 12 = .ok (.ifCond .lt 8, 3) := by decide +kernel
theorem dX7_best_15 : decode cX7_best 15 = .ok (.iload_n 2, 1) := by decide +kernel
theorem dX7_best_16 : decode cX7_best 16 = .ok (.iconst 1, 1) := by decide +kernel
theorem dX7_best_17 : decode cX7_best 17 = .ok (.if_icmp .le 10, 3) := by decide +kernel
theorem dX7_best_20 : decode cX7_best 20 = .ok (.aload_n 0, 1) := by decide +kernel
theorem dX7_best_21 : decode cX7_best 21 = .ok (.ldc 51, 2) := by decide +kernel
theorem dX7_best_23 : decode cX7_best 23 = .ok (.invokevirtual 52, 3) := by decide +kernel
theorem dX7_best_26 : decode cX7_best 26 = .ok (.ireturn, 1) := by decide +kernel
theorem dX7_best_27 : decode cX7_best 27 = .ok (.aload_n 0, 1) := by decide +kernel
theorem dX7_best_28 : decode cX7_best 28 = .ok (.getfield 12, 3) := by decide +kernel
theorem dX7_best_31 : decode cX7_best 31 = .ok (.iload_n 1, 1) := by decide +kernel
theorem dX7_best_32 : decode cX7_best 32 = .ok (.invokevirtual 86, 3) := by decide +kernel
theorem dX7_best_35 : decode cX7_best 35 = .ok (.bipush (-2), 2) := by decide +kernel
theorem dX7_best_37 : decode cX7_best 37 = .ok (.if_icmp .ne 10, 3) := by decide +kernel
theorem dX7_best_40 : decode cX7_best 40 = .ok (.aload_n 0, 1) := by decide +kernel
theorem dX7_best_41 : decode cX7_best 41 = .ok (.ldc 115, 2) := by decide +kernel
theorem dX7_best_43 : decode cX7_best 43 = .ok (.invokevirtual 52, 3) := by decide +kernel
theorem dX7_best_46 : decode cX7_best 46 = .ok (.ireturn, 1) := by decide +kernel
theorem dX7_best_47 : decode cX7_best 47 = .ok (.aload_n 0, 1) := by decide +kernel
theorem dX7_best_48 : decode cX7_best 48 = .ok (.getfield 12, 3) := by decide +kernel
theorem dX7_best_51 : decode cX7_best 51 = .ok (.iload_n 1, 1) := by decide +kernel
theorem dX7_best_52 : decode cX7_best 52 = .ok (.invokevirtual 172, 3) := by decide +kernel
theorem dX7_best_55 : decode cX7_best 55 = .ok (.istore_n 3, 1) := by decide +kernel
theorem dX7_best_56 : decode cX7_best 56 = .ok (.iload_n 2, 1) := by decide +kernel
theorem dX7_best_57 : decode cX7_best 57 = .ok (.ifCond .ne 7, 3) := by decide +kernel
theorem dX7_best_60 : decode cX7_best 60 = .ok (.iload_n 3, 1) := by decide +kernel
theorem dX7_best_61 : decode cX7_best 61 = .ok (.goto 12, 3) := by decide +kernel
theorem dX7_best_64 : decode cX7_best 64 = .ok (.aload_n 0, 1) := by decide +kernel
theorem dX7_best_65 : decode cX7_best 65 = .ok (.getfield 12, 3) := by decide +kernel
theorem dX7_best_68 : decode cX7_best 68 = .ok (.iload_n 1, 1) := by decide +kernel
theorem dX7_best_69 : decode cX7_best 69 = .ok (.iload_n 3, 1) := by decide +kernel
theorem dX7_best_70 : decode cX7_best 70 = .ok (.invokevirtual 168, 3) := by decide +kernel
theorem dX7_best_73 : decode cX7_best 73 = .ok (.ireturn, 1) := by decide +kernel
theorem dX7_takes_0 : decode cX7_takes 0 = .ok (.aload_n 0, 1) := by decide +kernel
theorem dX7_takes_1 : decode cX7_takes 1 = .ok (.getfield 12, 3) := by decide +kernel
theorem dX7_takes_4 : decode cX7_takes 4 = .ok (.iload_n 1, 1) := by decide +kernel
theorem dX7_takes_5 : decode cX7_takes 5 = .ok (.invokevirtual 65, 3) := by decide +kernel
theorem dX7_takes_8 : decode cX7_takes 8 = .ok (.ifCond .eq 10, 3) := by decide +kernel
theorem dX7_takes_11 : decode cX7_takes 11 = .ok (.iload_n 2, 1) := by decide +kernel
theorem dX7_takes_12 : decode cX7_takes 12 = .ok (.invokestatic 165, 3) := by decide +kernel
theorem dX7_takes_15 : decode cX7_takes 15 = .ok (.ifCond .ne 10, 3) := by decide +kernel
theorem dX7_takes_18 : decode cX7_takes 18 = .ok (.aload_n 0, 1) := by decide +kernel
theorem dX7_takes_19 : decode cX7_takes 19 = .ok (.ldc 51, 2) := by decide +kernel
theorem dX7_takes_21 : decode cX7_takes 21 = .ok (.invokevirtual 52, 3) := by decide +kernel
theorem dX7_takes_24 : decode cX7_takes 24 = .ok (.ireturn, 1) := by decide +kernel
theorem dX7_takes_25 : decode cX7_takes 25 = .ok (.aload_n 0, 1) := by decide +kernel
theorem dX7_takes_26 : decode cX7_takes 26 = .ok (.getfield 12, 3) := by decide +kernel
theorem dX7_takes_29 : decode cX7_takes 29 = .ok (.iload_n 1, 1) := by decide +kernel
theorem dX7_takes_30 : decode cX7_takes 30 = .ok (.invokevirtual 86, 3) := by decide +kernel
theorem dX7_takes_33 : decode cX7_takes 33 = .ok (.bipush (-2), 2) := by decide +kernel
theorem dX7_takes_35 : decode cX7_takes 35 = .ok (.if_icmp .ne 10, 3) := by decide +kernel
theorem dX7_takes_38 : decode cX7_takes 38 = .ok (.aload_n 0, 1) := by decide +kernel
theorem dX7_takes_39 : decode cX7_takes 39 = .ok (.ldc 115, 2) := by decide +kernel
theorem dX7_takes_41 : decode cX7_takes 41 = .ok (.invokevirtual 52, 3) := by decide +kernel
theorem dX7_takes_44 : decode cX7_takes 44 = .ok (.ireturn, 1) := by decide +kernel
theorem dX7_takes_45 : decode cX7_takes 45 = .ok (.aload_n 0, 1) := by decide +kernel
theorem dX7_takes_46 : decode cX7_takes 46 = .ok (.getfield 12, 3) := by decide +kernel
theorem dX7_takes_49 : decode cX7_takes 49 = .ok (.iload_n 1, 1) := by decide +kernel
theorem dX7_takes_50 : decode cX7_takes 50 = .ok (.iload_n 2, 1) := by decide +kernel
theorem dX7_takes_51 : decode cX7_takes 51 = .ok (.invokevirtual 175, 3) := by decide +kernel
theorem dX7_takes_54 : decode cX7_takes 54 = .ok (.ireturn, 1) := by decide +kernel
theorem dX7_walks_0 : decode cX7_walks 0 = .ok (.iload_n 1, 1) := by decide +kernel
theorem dX7_walks_1 : decode cX7_walks 1 = .ok (.iconst 1, 1) := by decide +kernel
theorem dX7_walks_2 : decode cX7_walks 2 = .ok (.if_icmp .lt 9, 3) := by decide +kernel
theorem dX7_walks_5 : decode cX7_walks 5 = .ok (.iload_n 1, 1) := by decide +kernel
theorem dX7_walks_6 : decode cX7_walks 6 = .ok (.bipush 100, 2) := by decide +kernel
theorem dX7_walks_8 : decode cX7_walks 8 = .ok (.if_icmp .le 10, 3) := by decide +kernel
theorem dX7_walks_11 : decode cX7_walks 11 = .ok (.aload_n 0, 1) := by decide +kernel
theorem dX7_walks_12 : decode cX7_walks 12 = .ok (.ldc 51, 2) := by decide +kernel
theorem dX7_walks_14 : decode cX7_walks 14 = .ok (.invokevirtual 52, 3) := by decide +kernel
theorem dX7_walks_17 : decode cX7_walks 17 = .ok (.ireturn, 1) := by decide +kernel
theorem dX7_walks_18 : decode cX7_walks 18 = .ok (.aload_n 0, 1) := by decide +kernel
theorem dX7_walks_19 : decode cX7_walks 19 = .ok (.getfield 12, 3) := by decide +kernel
theorem dX7_walks_22 : decode cX7_walks 22 = .ok (.getfield 89, 3) := by decide +kernel
theorem dX7_walks_25 : decode cX7_walks 25 = .ok (.iload_n 1, 1) := by decide +kernel
theorem dX7_walks_26 : decode cX7_walks 26 = .ok (.iadd, 1) := by decide +kernel
theorem dX7_walks_27 : decode cX7_walks 27 = .ok (.sipush 9999, 3) := by decide +kernel
theorem dX7_walks_30 : decode cX7_walks 30 = .ok (.if_icmp .le 10, 3) := by decide +kernel
theorem dX7_walks_33 : decode cX7_walks 33 = .ok (.aload_n 0, 1) := by decide +kernel
theorem dX7_walks_34 : decode cX7_walks 34 = .ok (.ldc 115, 2) := by decide +kernel
theorem dX7_walks_36 : decode cX7_walks 36 = .ok (.invokevirtual 52, 3) := by decide +kernel
theorem dX7_walks_39 : decode cX7_walks 39 = .ok (.ireturn, 1) := by decide +kernel
theorem dX7_walks_40 : decode cX7_walks 40 = .ok (.aload_n 0, 1) := by decide +kernel
theorem dX7_walks_41 : decode cX7_walks 41 = .ok (.getfield 12, 3) := by decide +kernel
theorem dX7_walks_44 : decode cX7_walks 44 = .ok (.iload_n 1, 1) := by decide +kernel
theorem dX7_walks_45 : decode cX7_walks 45 = .ok (.invokevirtual 178, 3) := by decide +kernel
theorem dX7_walks_48 : decode cX7_walks 48 = .ok (.aload_n 0, 1) := by decide +kernel
theorem dX7_walks_49 : decode cX7_walks 49 = .ok (.getfield 12, 3) := by decide +kernel
theorem dX7_walks_52 : decode cX7_walks 52 = .ok (.getfield 89, 3) := by decide +kernel
theorem dX7_walks_55 : decode cX7_walks 55 = .ok (.ireturn, 1) := by decide +kernel
theorem dX7_loose_0 : decode cX7_loose 0 = .ok (.iload_n 1, 1) := by decide +kernel
theorem dX7_loose_1 : decode cX7_loose 1 = .ok (.iconst 1, 1) := by decide +kernel
theorem dX7_loose_2 : decode cX7_loose 2 = .ok (.if_icmp .lt 9, 3) := by decide +kernel
theorem dX7_loose_5 : decode cX7_loose 5 = .ok (.iload_n 1, 1) := by decide +kernel
theorem dX7_loose_6 : decode cX7_loose 6 = .ok (.bipush 20, 2) := by decide +kernel
theorem dX7_loose_8 : decode cX7_loose 8 = .ok (.if_icmp .le 10, 3) := by decide +kernel
theorem dX7_loose_11 : decode cX7_loose 11 = .ok (.aload_n 0, 1) := by decide +kernel
theorem dX7_loose_12 : decode cX7_loose 12 = .ok (.ldc 51, 2) := by decide +kernel
theorem dX7_loose_14 : decode cX7_loose 14 = .ok (.invokevirtual 52, 3) := by decide +kernel
theorem dX7_loose_17 : decode cX7_loose 17 = .ok (.ireturn, 1) := by decide +kernel
theorem dX7_loose_18 : decode cX7_loose 18 = .ok (.aload_n 0, 1) := by decide +kernel
theorem dX7_loose_19 : decode cX7_loose 19 = .ok (.getfield 12, 3) := by decide +kernel
theorem dX7_loose_22 : decode cX7_loose 22 = .ok (.getfield 89, 3) := by decide +kernel
theorem dX7_loose_25 : decode cX7_loose 25 = .ok (.iconst 3, 1) := by decide +kernel
theorem dX7_loose_26 : decode cX7_loose 26 = .ok (.iload_n 1, 1) := by decide +kernel
theorem dX7_loose_27 : decode cX7_loose 27 = .ok (.imul, 1) := by decide +kernel
theorem dX7_loose_28 : decode cX7_loose 28 = .ok (.iadd, 1) := by decide +kernel
theorem dX7_loose_29 : decode cX7_loose 29 = .ok (.sipush 9999, 3) := by decide +kernel
theorem dX7_loose_32 : decode cX7_loose 32 = .ok (.if_icmp .le 10, 3) := by decide +kernel
theorem dX7_loose_35 : decode cX7_loose 35 = .ok (.aload_n 0, 1) := by decide +kernel
theorem dX7_loose_36 : decode cX7_loose 36 = .ok (.ldc 115, 2) := by decide +kernel
theorem dX7_loose_38 : decode cX7_loose 38 = .ok (.invokevirtual 52, 3) := by decide +kernel
theorem dX7_loose_41 : decode cX7_loose 41 = .ok (.ireturn, 1) := by decide +kernel
theorem dX7_loose_42 : decode cX7_loose 42 = .ok (.iconst 0, 1) := by decide +kernel
theorem dX7_loose_43 : decode cX7_loose 43 = .ok (.istore_n 2, 1) := by decide +kernel
theorem dX7_loose_44 : decode cX7_loose 44 = .ok (.iload_n 2, 1) := by decide +kernel
theorem dX7_loose_45 : decode cX7_loose 45 = .ok (.iload_n 1, 1) := by decide +kernel
theorem dX7_loose_46 : decode cX7_loose 46 = .ok (.if_icmp .ge 16, 3) := by decide +kernel
theorem dX7_loose_49 : decode cX7_loose 49 = .ok (.aload_n 0, 1) := by decide +kernel
theorem dX7_loose_50 : decode cX7_loose 50 = .ok (.getfield 12, 3) := by decide +kernel
theorem dX7_loose_53 : decode cX7_loose 53 = .ok (.invokevirtual 181, 3) := by decide +kernel
theorem dX7_loose_56 : decode cX7_loose 56 = .ok (.iinc 2 1, 3) := by decide +kernel
theorem dX7_loose_59 : decode cX7_loose 59 = .ok (.goto (-15), 3) := by decide +kernel
theorem dX7_loose_62 : decode cX7_loose 62 = .ok (.aload_n 0, 1) := by decide +kernel
theorem dX7_loose_63 : decode cX7_loose 63 = .ok (.getfield 12, 3) := by decide +kernel
theorem dX7_loose_66 : decode cX7_loose 66 = .ok (.getfield 184, 3) := by decide +kernel
theorem dX7_loose_69 : decode cX7_loose 69 = .ok (.ireturn, 1) := by decide +kernel
theorem dX7_seed_0 : decode cX7_seed 0 = .ok (.aload_n 0, 1) := by decide +kernel
theorem dX7_seed_1 : decode cX7_seed 1 = .ok (.getfield 12, 3) := by decide +kernel
theorem dX7_seed_4 : decode cX7_seed 4 = .ok (.getfield 187, 3) := by decide +kernel
theorem dX7_seed_7 : decode cX7_seed 7 = .ok (.istore_n 2, 1) := by decide +kernel
theorem dX7_seed_8 : decode cX7_seed 8 = .ok (.aload_n 0, 1) := by decide +kernel
theorem dX7_seed_9 : decode cX7_seed 9 = .ok (.getfield 12, 3) := by decide +kernel
theorem dX7_seed_12 : decode cX7_seed 12 = .ok (.iload_n 1, 1) := by decide +kernel
theorem dX7_seed_13 : decode cX7_seed 13 = .ok (.putfield 187, 3) := by decide +kernel
theorem dX7_seed_16 : decode cX7_seed 16 = .ok (.iload_n 2, 1) := by decide +kernel
theorem dX7_seed_17 : decode cX7_seed 17 = .ok (.ireturn, 1) := by decide +kernel
theorem dX7_then_0 : decode cX7_then 0 = .ok (.aload_n 0, 1) := by decide +kernel
theorem dX7_then_1 : decode cX7_then 1 = .ok (.getfield 12, 3) := by decide +kernel
theorem dX7_then_4 : decode cX7_then 4 = .ok (.iload_n 1, 1) := by decide +kernel
theorem dX7_then_5 : decode cX7_then 5 = .ok (.invokevirtual 65, 3) := by decide +kernel
theorem dX7_then_8 : decode cX7_then 8 = .ok (.ifCond .eq 13, 3) := by decide +kernel
theorem dX7_then_11 : decode cX7_then 11 = .ok (.iload_n 2, 1) := by decide +kernel
theorem dX7_then_12 : decode cX7_then 12 = .ok (.ifCond .lt 9, 3) := by decide +kernel
theorem dX7_then_15 : decode cX7_then 15 = .ok (.iload_n 2, 1) := by decide +kernel
theorem dX7_then_16 : decode cX7_then 16 = .ok (.bipush 100, 2) := by decide +kernel
theorem dX7_then_18 : decode cX7_then 18 = .ok (.if_icmp .le 10, 3) := by decide +kernel
theorem dX7_then_21 : decode cX7_then 21 = .ok (.aload_n 0, 1) := by decide +kernel
theorem dX7_then_22 : decode cX7_then 22 = .ok (.ldc 51, 2) := by decide +kernel
theorem dX7_then_24 : decode cX7_then 24 = .ok (.invokevirtual 52, 3) := by decide +kernel
theorem dX7_then_27 : decode cX7_then 27 = .ok (.ireturn, 1) := by decide +kernel
theorem dX7_then_28 : decode cX7_then 28 = .ok (.aload_n 0, 1) := by decide +kernel
theorem dX7_then_29 : decode cX7_then 29 = .ok (.getfield 35, 3) := by decide +kernel
theorem dX7_then_32 : decode cX7_then 32 = .ok (.aload_n 0, 1) := by decide +kernel
theorem dX7_then_33 : decode cX7_then 33 = .ok (.getfield 12, 3) := by decide +kernel
theorem dX7_then_36 : decode cX7_then 36 = .ok (.iload_n 1, 1) := by decide +kernel
theorem dX7_then_37 : decode cX7_then 37 = .ok (.iload_n 2, 1) := by decide +kernel
theorem dX7_then_38 : decode cX7_then 38 = .ok (.invokevirtual 190, 3) := by decide +kernel
theorem dX7_then_41 : decode cX7_then 41 = .ok (.ireturn, 1) := by decide +kernel
theorem dX7_settles_0 : decode cX7_settles 0 = .ok (.aload_n 0, 1) := by decide +kernel
theorem dX7_settles_1 : decode cX7_settles 1 = .ok (.getfield 35, 3) := by decide +kernel
theorem dX7_settles_4 : decode cX7_settles 4 = .ok (.aload_n 0, 1) := by decide +kernel
theorem dX7_settles_5 : decode cX7_settles 5 = .ok (.getfield 12, 3) := by decide +kernel
theorem dX7_settles_8 : decode cX7_settles 8 = .ok (.invokevirtual 194, 3) := by decide +kernel
theorem dX7_settles_11 : decode cX7_settles 11 = .ok (.istore_n 1, 1) := by decide +kernel
theorem dX7_settles_12 : decode cX7_settles 12 = .ok (.iload_n 1, 1) := by decide +kernel
theorem dX7_settles_13 : decode cX7_settles 13 = .ok (.iconst (-1), 1) := by decide +kernel
theorem dX7_settles_14 : decode cX7_settles 14 = .ok (.if_icmp .ne 12, 3) := by decide +kernel
theorem dX7_settles_17 : decode cX7_settles 17 = .ok (.aload_n 0, 1) := by decide +kernel
theorem dX7_settles_18 : decode cX7_settles 18 = .ok (.ldc 198, 2) := by decide +kernel
theorem dX7_settles_20 : decode cX7_settles 20 = .ok (.invokevirtual 52, 3) := by decide +kernel
theorem dX7_settles_23 : decode cX7_settles 23 = .ok (.goto 4, 3) := by decide +kernel
theorem dX7_settles_26 : decode cX7_settles 26 = .ok (.iload_n 1, 1) := by decide +kernel
theorem dX7_settles_27 : decode cX7_settles 27 = .ok (.ireturn, 1) := by decide +kernel
theorem dX7_pack_0 : decode cX7_pack 0 = .ok (.iload_n 1, 1) := by decide +kernel
theorem dX7_pack_1 : decode cX7_pack 1 = .ok (.ifCond .lt 20, 3) := by decide +kernel
theorem dX7_pack_4 : decode cX7_pack 4 = .ok (.iload_n 1, 1) := by decide +kernel
theorem dX7_pack_5 : decode cX7_pack 5 = .ok (.bipush 20, 2) := by decide +kernel
theorem dX7_pack_7 : decode cX7_pack 7 = .ok (.if_icmp .gt 14, 3) := by decide +kernel
theorem dX7_pack_10 : decode cX7_pack 10 = .ok (.iload_n 2, 1) := by decide +kernel
theorem dX7_pack_11 : decode cX7_pack 11 = .ok (.iconst (-1), 1) := by decide +kernel
theorem dX7_pack_12 : decode cX7_pack 12 = .ok (.if_icmp .lt 9, 3) := by decide +kernel
theorem dX7_pack_15 : decode cX7_pack 15 = .ok (.iload_n 2, 1) := by decide +kernel
theorem dX7_pack_16 : decode cX7_pack 16 = .ok (.bipush 6, 2) := by decide +kernel
theorem dX7_pack_18 : decode cX7_pack 18 = .ok (.if_icmp .lt 10, 3) := by decide +kernel
theorem dX7_pack_21 : decode cX7_pack 21 = .ok (.aload_n 0, 1) := by decide +kernel
theorem dX7_pack_22 : decode cX7_pack 22 = .ok (.ldc 51, 2) := by decide +kernel
theorem dX7_pack_24 : decode cX7_pack 24 = .ok (.invokevirtual 52, 3) := by decide +kernel
theorem dX7_pack_27 : decode cX7_pack 27 = .ok (.ireturn, 1) := by decide +kernel
theorem dX7_pack_28 : decode cX7_pack 28 = .ok (.aload_n 0, 1) := by decide +kernel
theorem dX7_pack_29 : decode cX7_pack 29 = .ok (.getfield 12, 3) := by decide +kernel
theorem dX7_pack_32 : decode cX7_pack 32 = .ok (.getfield 103, 3) := by decide +kernel
theorem dX7_pack_35 : decode cX7_pack 35 = .ok (.getfield 120, 3) := by decide +kernel
theorem dX7_pack_38 : decode cX7_pack 38 = .ok (.bipush 6, 2) := by decide +kernel
theorem dX7_pack_40 : decode cX7_pack 40 = .ok (.if_icmp .le 10, 3) := by decide +kernel
theorem dX7_pack_43 : decode cX7_pack 43 = .ok (.aload_n 0, 1) := by decide +kernel
theorem dX7_pack_44 : decode cX7_pack 44 = .ok (.ldc 115, 2) := by decide +kernel
theorem dX7_pack_46 : decode cX7_pack 46 = .ok (.invokevirtual 52, 3) := by decide +kernel
theorem dX7_pack_49 : decode cX7_pack 49 = .ok (.ireturn, 1) := by decide +kernel
theorem dX7_pack_50 : decode cX7_pack 50 = .ok (.iload_n 2, 1) := by decide +kernel
theorem dX7_pack_51 : decode cX7_pack 51 = .ok (.aload_n 0, 1) := by decide +kernel
theorem dX7_pack_52 : decode cX7_pack 52 = .ok (.getfield 12, 3) := by decide +kernel
theorem dX7_pack_55 : decode cX7_pack 55 = .ok (.getfield 103, 3) := by decide +kernel
theorem dX7_pack_58 : decode cX7_pack 58 = .ok (.getfield 120, 3) := by decide +kernel
theorem dX7_pack_61 : decode cX7_pack 61 = .ok (.if_icmp .lt 10, 3) := by decide +kernel
theorem dX7_pack_64 : decode cX7_pack 64 = .ok (.aload_n 0, 1) := by decide +kernel
theorem dX7_pack_65 : decode cX7_pack 65 = .ok (.ldc 198, 2) := by decide +kernel
theorem dX7_pack_67 : decode cX7_pack 67 = .ok (.invokevirtual 52, 3) := by decide +kernel
theorem dX7_pack_70 : decode cX7_pack 70 = .ok (.ireturn, 1) := by decide +kernel
theorem dX7_pack_71 : decode cX7_pack 71 = .ok (.aload_n 0, 1) := by decide +kernel
theorem dX7_pack_72 : decode cX7_pack 72 = .ok (.getfield 35, 3) := by decide +kernel
theorem dX7_pack_75 : decode cX7_pack 75 = .ok (.aload_n 0, 1) := by decide +kernel
theorem dX7_pack_76 : decode cX7_pack 76 = .ok (.getfield 12, 3) := by decide +kernel
theorem dX7_pack_79 : decode cX7_pack 79 = .ok (.iload_n 1, 1) := by decide +kernel
theorem dX7_pack_80 : decode cX7_pack 80 = .ok (.invokevirtual 199, 3) := by decide +kernel
theorem dX7_pack_83 : decode cX7_pack 83 = .ok (.istore_n 3, 1) := by decide +kernel
theorem dX7_pack_84 : decode cX7_pack 84 = .ok (.iload_n 2, 1) := by decide +kernel
theorem dX7_pack_85 : decode cX7_pack 85 = .ok (.iconst (-1), 1) := by decide +kernel
theorem dX7_pack_86 : decode cX7_pack 86 = .ok (.if_icmp .ne 7, 3) := by decide +kernel
theorem dX7_pack_89 : decode cX7_pack 89 = .ok (.iload_n 3, 1) := by decide +kernel
theorem dX7_pack_90 : decode cX7_pack 90 = .ok (.goto 15, 3) := by decide +kernel
theorem dX7_pack_93 : decode cX7_pack 93 = .ok (.aload_n 0, 1) := by decide +kernel
theorem dX7_pack_94 : decode cX7_pack 94 = .ok (.getfield 35, 3) := by decide +kernel
theorem dX7_pack_97 : decode cX7_pack 97 = .ok (.getfield 203, 3) := by decide +kernel
theorem dX7_pack_100 : decode cX7_pack 100 = .ok (.getfield 112, 3) := by decide +kernel
theorem dX7_pack_103 : decode cX7_pack 103 = .ok (.iload_n 2, 1) := by decide +kernel
theorem dX7_pack_104 : decode cX7_pack 104 = .ok (.iaload, 1) := by decide +kernel
theorem dX7_pack_105 : decode cX7_pack 105 = .ok (.ireturn, 1) := by decide +kernel
theorem dX7_out_0 : decode cX7_out 0 = .ok (.aload_n 0, 1) := by decide +kernel
theorem dX7_out_1 : decode cX7_out 1 = .ok (.getfield 12, 3) := by decide +kernel
theorem dX7_out_4 : decode cX7_out 4 = .ok (.iload_n 1, 1) := by decide +kernel
theorem dX7_out_5 : decode cX7_out 5 = .ok (.invokevirtual 65, 3) := by decide +kernel
theorem dX7_out_8 : decode cX7_out 8 = .ok (.ifCond .eq 19, 3) := by decide +kernel
theorem dX7_out_11 : decode cX7_out 11 = .ok (.iload_n 2, 1) := by decide +kernel
theorem dX7_out_12 : decode cX7_out 12 = .ok (.invokestatic 206, 3) := by decide +kernel
theorem dX7_out_15 : decode cX7_out 15 = .ok (.ifCond .eq 12, 3) := by decide +kernel
theorem dX7_out_18 : decode cX7_out 18 = .ok (.iload_n 3, 1) := by decide +kernel
theorem dX7_out_19 : decode cX7_out 19 = .ok (.ifCond .lt 8, 3) := by decide +kernel
theorem dX7_out_22 : decode cX7_out 22 = .ok (.iload_n 3, 1) := by decide +kernel
theorem dX7_out_23 : decode cX7_out 23 = .ok (.iconst 1, 1) := by decide +kernel
theorem dX7_out_24 : decode cX7_out 24 = .ok (.if_icmp .le 10, 3) := by decide +kernel
theorem dX7_out_27 : decode cX7_out 27 = .ok (.aload_n 0, 1) := by decide +kernel
theorem dX7_out_28 : decode cX7_out 28 = .ok (.ldc 51, 2) := by decide +kernel
theorem dX7_out_30 : decode cX7_out 30 = .ok (.invokevirtual 52, 3) := by decide +kernel
theorem dX7_out_33 : decode cX7_out 33 = .ok (.ireturn, 1) := by decide +kernel
theorem dX7_out_34 : decode cX7_out 34 = .ok (.aload_n 0, 1) := by decide +kernel
theorem dX7_out_35 : decode cX7_out 35 = .ok (.getfield 12, 3) := by decide +kernel
theorem dX7_out_38 : decode cX7_out 38 = .ok (.iload_n 1, 1) := by decide +kernel
theorem dX7_out_39 : decode cX7_out 39 = .ok (.invokevirtual 86, 3) := by decide +kernel
theorem dX7_out_42 : decode cX7_out 42 = .ok (.ifCond .ge 10, 3) := by decide +kernel
theorem dX7_out_45 : decode cX7_out 45 = .ok (.aload_n 0, 1) := by decide +kernel
theorem dX7_out_46 : decode cX7_out 46 = .ok (.ldc 115, 2) := by decide +kernel
theorem dX7_out_48 : decode cX7_out 48 = .ok (.invokevirtual 52, 3) := by decide +kernel
theorem dX7_out_51 : decode cX7_out 51 = .ok (.ireturn, 1) := by decide +kernel
theorem dX7_out_52 : decode cX7_out 52 = .ok (.aload_n 0, 1) := by decide +kernel
theorem dX7_out_53 : decode cX7_out 53 = .ok (.getfield 35, 3) := by decide +kernel
theorem dX7_out_56 : decode cX7_out 56 = .ok (.aload_n 0, 1) := by decide +kernel
theorem dX7_out_57 : decode cX7_out 57 = .ok (.getfield 12, 3) := by decide +kernel
theorem dX7_out_60 : decode cX7_out 60 = .ok (.iload_n 1, 1) := by decide +kernel
theorem dX7_out_61 : decode cX7_out 61 = .ok (.iload_n 2, 1) := by decide +kernel
theorem dX7_out_62 : decode cX7_out 62 = .ok (.invokevirtual 209, 3) := by decide +kernel
theorem dX7_out_65 : decode cX7_out 65 = .ok (.istore 4, 2) := by decide +kernel
theorem dX7_out_67 : decode cX7_out 67 = .ok (.iload 4, 2) := by decide +kernel
theorem dX7_out_69 : decode cX7_out 69 = .ok (.iconst (-1), 1) := by decide +kernel
theorem dX7_out_70 : decode cX7_out 70 = .ok (.if_icmp .ne 10, 3) := by decide +kernel
theorem dX7_out_73 : decode cX7_out 73 = .ok (.aload_n 0, 1) := by decide +kernel
theorem dX7_out_74 : decode cX7_out 74 = .ok (.ldc 198, 2) := by decide +kernel
theorem dX7_out_76 : decode cX7_out 76 = .ok (.invokevirtual 52, 3) := by decide +kernel
theorem dX7_out_79 : decode cX7_out 79 = .ok (.ireturn, 1) := by decide +kernel
theorem dX7_out_80 : decode cX7_out 80 = .ok (.iload_n 3, 1) := by decide +kernel
theorem dX7_out_81 : decode cX7_out 81 = .ok (.ifCond .ne 11, 3) := by decide +kernel
theorem dX7_out_84 : decode cX7_out 84 = .ok (.iload 4, 2) := by decide +kernel
theorem dX7_out_86 : decode cX7_out 86 = .ok (.invokestatic 212, 3) := by decide +kernel
theorem dX7_out_89 : decode cX7_out 89 = .ok (.goto 5, 3) := by decide +kernel
theorem dX7_out_92 : decode cX7_out 92 = .ok (.iload 4, 2) := by decide +kernel
theorem dX7_out_94 : decode cX7_out 94 = .ok (.ireturn, 1) := by decide +kernel
theorem dX7_odds_0 : decode cX7_odds 0 = .ok (.iload_n 1, 1) := by decide +kernel
theorem dX7_odds_1 : decode cX7_odds 1 = .ok (.invokestatic 206, 3) := by decide +kernel
theorem dX7_odds_4 : decode cX7_odds 4 = .ok (.ifCond .eq 12, 3) := by decide +kernel
theorem dX7_odds_7 : decode cX7_odds 7 = .ok (.iload_n 2, 1) := by decide +kernel
theorem dX7_odds_8 : decode cX7_odds 8 = .ok (.ifCond .lt 8, 3) := by decide +kernel
theorem dX7_odds_11 : decode cX7_odds 11 = .ok (.iload_n 2, 1) := by decide +kernel
theorem dX7_odds_12 : decode cX7_odds 12 = .ok (.iconst 1, 1) := by decide +kernel
theorem dX7_odds_13 : decode cX7_odds 13 = .ok (.if_icmp .le 10, 3) := by decide +kernel
theorem dX7_odds_16 : decode cX7_odds 16 = .ok (.aload_n 0, 1) := by decide +kernel
theorem dX7_odds_17 : decode cX7_odds 17 = .ok (.ldc 51, 2) := by decide +kernel
theorem dX7_odds_19 : decode cX7_odds 19 = .ok (.invokevirtual 52, 3) := by decide +kernel
theorem dX7_odds_22 : decode cX7_odds 22 = .ok (.ireturn, 1) := by decide +kernel
theorem dX7_odds_23 : decode cX7_odds 23 = .ok (.aload_n 0, 1) := by decide +kernel
theorem dX7_odds_24 : decode cX7_odds 24 = .ok (.getfield 35, 3) := by decide +kernel
theorem dX7_odds_27 : decode cX7_odds 27 = .ok (.aload_n 0, 1) := by decide +kernel
theorem dX7_odds_28 : decode cX7_odds 28 = .ok (.getfield 12, 3) := by decide +kernel
theorem dX7_odds_31 : decode cX7_odds 31 = .ok (.ldc 217, 2) := by decide +kernel
theorem dX7_odds_33 : decode cX7_odds 33 = .ok (.invokevirtual 218, 3) := by decide +kernel
theorem dX7_odds_36 : decode cX7_odds 36 = .ok (.istore_n 3, 1) := by decide +kernel
theorem dX7_odds_37 : decode cX7_odds 37 = .ok (.iload_n 3, 1) := by decide +kernel
theorem dX7_odds_38 : decode cX7_odds 38 = .ok (.ifCond .ne 10, 3) := by decide +kernel
theorem dX7_odds_41 : decode cX7_odds 41 = .ok (.aload_n 0, 1) := by decide +kernel
theorem dX7_odds_42 : decode cX7_odds 42 = .ok (.ldc 115, 2) := by decide +kernel
theorem dX7_odds_44 : decode cX7_odds 44 = .ok (.invokevirtual 52, 3) := by decide +kernel
theorem dX7_odds_47 : decode cX7_odds 47 = .ok (.ireturn, 1) := by decide +kernel
theorem dX7_odds_48 : decode cX7_odds 48 = .ok (.aload_n 0, 1) := by decide +kernel
theorem dX7_odds_49 : decode cX7_odds 49 = .ok (.getfield 35, 3) := by decide +kernel
theorem dX7_odds_52 : decode cX7_odds 52 = .ok (.aload_n 0, 1) := by decide +kernel
theorem dX7_odds_53 : decode cX7_odds 53 = .ok (.getfield 12, 3) := by decide +kernel
theorem dX7_odds_56 : decode cX7_odds 56 = .ok (.iload_n 1, 1) := by decide +kernel
theorem dX7_odds_57 : decode cX7_odds 57 = .ok (.invokevirtual 218, 3) := by decide +kernel
theorem dX7_odds_60 : decode cX7_odds 60 = .ok (.istore 4, 2) := by decide +kernel
theorem dX7_odds_62 : decode cX7_odds 62 = .ok (.iload_n 3, 1) := by decide +kernel
theorem dX7_odds_63 : decode cX7_odds 63 = .ok (.iload 4, 2) := by decide +kernel
theorem dX7_odds_65 : decode cX7_odds 65 = .ok (.invokestatic 221, 3) := by decide +kernel
theorem dX7_odds_68 : decode cX7_odds 68 = .ok (.istore 5, 2) := by decide +kernel
theorem dX7_odds_70 : decode cX7_odds 70 = .ok (.iload 5, 2) := by decide +kernel
theorem dX7_odds_72 : decode cX7_odds 72 = .ok (.ifCond .ne 5, 3) := by decide +kernel
theorem dX7_odds_75 : decode cX7_odds 75 = .ok (.iconst 0, 1) := by decide +kernel
theorem dX7_odds_76 : decode cX7_odds 76 = .ok (.ireturn, 1) := by decide +kernel
theorem dX7_odds_77 : decode cX7_odds 77 = .ok (.iload_n 2, 1) := by decide +kernel
theorem dX7_odds_78 : decode cX7_odds 78 = .ok (.ifCond .ne 11, 3) := by decide +kernel
theorem dX7_odds_81 : decode cX7_odds 81 = .ok (.iload 4, 2) := by decide +kernel
theorem dX7_odds_83 : decode cX7_odds 83 = .ok (.iload 5, 2) := by decide +kernel
theorem dX7_odds_85 : decode cX7_odds 85 = .ok (.idiv, 1) := by decide +kernel
theorem dX7_odds_86 : decode cX7_odds 86 = .ok (.goto 7, 3) := by decide +kernel
theorem dX7_odds_89 : decode cX7_odds 89 = .ok (.iload_n 3, 1) := by decide +kernel
theorem dX7_odds_90 : decode cX7_odds 90 = .ok (.iload 5, 2) := by decide +kernel
theorem dX7_odds_92 : decode cX7_odds 92 = .ok (.idiv, 1) := by decide +kernel
theorem dX7_odds_93 : decode cX7_odds 93 = .ok (.ireturn, 1) := by decide +kernel
theorem dX7_fits_0 : decode cX7_fits 0 = .ok (.iload_n 1, 1) := by decide +kernel
theorem dX7_fits_1 : decode cX7_fits 1 = .ok (.invokestatic 224, 3) := by decide +kernel
theorem dX7_fits_4 : decode cX7_fits 4 = .ok (.ifCond .ne 10, 3) := by decide +kernel
theorem dX7_fits_7 : decode cX7_fits 7 = .ok (.aload_n 0, 1) := by decide +kernel
theorem dX7_fits_8 : decode cX7_fits 8 = .ok (.ldc 51, 2) := by decide +kernel
theorem dX7_fits_10 : decode cX7_fits 10 = .ok (.invokevirtual 52, 3) := by decide +kernel
theorem dX7_fits_13 : decode cX7_fits 13 = .ok (.ireturn, 1) := by decide +kernel
theorem dX7_fits_14 : decode cX7_fits 14 = .ok (.aload_n 0, 1) := by decide +kernel
theorem dX7_fits_15 : decode cX7_fits 15 = .ok (.getfield 21, 3) := by decide +kernel
theorem dX7_fits_18 : decode cX7_fits 18 = .ok (.iload_n 1, 1) := by decide +kernel
theorem dX7_fits_19 : decode cX7_fits 19 = .ok (.aaload, 1) := by decide +kernel
theorem dX7_fits_20 : decode cX7_fits 20 = .ok (.invokevirtual 227, 3) := by decide +kernel
theorem dX7_fits_23 : decode cX7_fits 23 = .ok (.ifCond .eq 10, 3) := by decide +kernel
theorem dX7_fits_26 : decode cX7_fits 26 = .ok (.aload_n 0, 1) := by decide +kernel
theorem dX7_fits_27 : decode cX7_fits 27 = .ok (.ldc 198, 2) := by decide +kernel
theorem dX7_fits_29 : decode cX7_fits 29 = .ok (.invokevirtual 52, 3) := by decide +kernel
theorem dX7_fits_32 : decode cX7_fits 32 = .ok (.ireturn, 1) := by decide +kernel
theorem dX7_fits_33 : decode cX7_fits 33 = .ok (.aload_n 0, 1) := by decide +kernel
theorem dX7_fits_34 : decode cX7_fits 34 = .ok (.getfield 35, 3) := by decide +kernel
theorem dX7_fits_37 : decode cX7_fits 37 = .ok (.aload_n 0, 1) := by decide +kernel
theorem dX7_fits_38 : decode cX7_fits 38 = .ok (.getfield 12, 3) := by decide +kernel
theorem dX7_fits_41 : decode cX7_fits 41 = .ok (.aload_n 0, 1) := by decide +kernel
theorem dX7_fits_42 : decode cX7_fits 42 = .ok (.getfield 21, 3) := by decide +kernel
theorem dX7_fits_45 : decode cX7_fits 45 = .ok (.iload_n 1, 1) := by decide +kernel
theorem dX7_fits_46 : decode cX7_fits 46 = .ok (.aaload, 1) := by decide +kernel
theorem dX7_fits_47 : decode cX7_fits 47 = .ok (.getfield 230, 3) := by decide +kernel
theorem dX7_fits_50 : decode cX7_fits 50 = .ok (.invokevirtual 233, 3) := by decide +kernel
theorem dX7_fits_53 : decode cX7_fits 53 = .ok (.istore_n 2, 1) := by decide +kernel
theorem dX7_fits_54 : decode cX7_fits 54 = .ok (.iload_n 2, 1) := by decide +kernel
theorem dX7_fits_55 : decode cX7_fits 55 = .ok (.iconst (-1), 1) := by decide +kernel
theorem dX7_fits_56 : decode cX7_fits 56 = .ok (.if_icmp .ne 12, 3) := by decide +kernel
theorem dX7_fits_59 : decode cX7_fits 59 = .ok (.aload_n 0, 1) := by decide +kernel
theorem dX7_fits_60 : decode cX7_fits 60 = .ok (.ldc 198, 2) := by decide +kernel
theorem dX7_fits_62 : decode cX7_fits 62 = .ok (.invokevirtual 52, 3) := by decide +kernel
theorem dX7_fits_65 : decode cX7_fits 65 = .ok (.goto 4, 3) := by decide +kernel
theorem dX7_fits_68 : decode cX7_fits 68 = .ok (.iload_n 2, 1) := by decide +kernel
theorem dX7_fits_69 : decode cX7_fits 69 = .ok (.ireturn, 1) := by decide +kernel
theorem dX7_voice_0 : decode cX7_voice 0 = .ok (.aload_n 0, 1) := by decide +kernel
theorem dX7_voice_1 : decode cX7_voice 1 = .ok (.getfield 12, 3) := by decide +kernel
theorem dX7_voice_4 : decode cX7_voice 4 = .ok (.iload_n 1, 1) := by decide +kernel
theorem dX7_voice_5 : decode cX7_voice 5 = .ok (.invokevirtual 65, 3) := by decide +kernel
theorem dX7_voice_8 : decode cX7_voice 8 = .ok (.ifCond .eq 12, 3) := by decide +kernel
theorem dX7_voice_11 : decode cX7_voice 11 = .ok (.iload_n 2, 1) := by decide +kernel
theorem dX7_voice_12 : decode cX7_voice 12 = .ok (.ifCond .lt 8, 3) := by decide +kernel
theorem dX7_voice_15 : decode cX7_voice 15 = .ok (.iload_n 2, 1) := by decide +kernel
theorem dX7_voice_16 : decode cX7_voice 16 = .ok (.iconst 4, 1) := by decide +kernel
theorem dX7_voice_17 : decode cX7_voice 17 = .ok (.if_icmp .lt 10, 3) := by decide +kernel
theorem dX7_voice_20 : decode cX7_voice 20 = .ok (.aload_n 0, 1) := by decide +kernel
theorem dX7_voice_21 : decode cX7_voice 21 = .ok (.ldc 51, 2) := by decide +kernel
theorem dX7_voice_23 : decode cX7_voice 23 = .ok (.invokevirtual 52, 3) := by decide +kernel
theorem dX7_voice_26 : decode cX7_voice 26 = .ok (.ireturn, 1) := by decide +kernel
theorem dX7_voice_27 : decode cX7_voice 27 = .ok (.aload_n 0, 1) := by decide +kernel
theorem dX7_voice_28 : decode cX7_voice 28 = .ok (.getfield 28, 3) := by decide +kernel
theorem dX7_voice_31 : decode cX7_voice 31 = .ok (.iload_n 1, 1) := by decide +kernel
theorem dX7_voice_32 : decode cX7_voice 32 = .ok (.aload_n 0, 1) := by decide +kernel
theorem dX7_voice_33 : decode cX7_voice 33 = .ok (.getfield 12, 3) := by decide +kernel
theorem dX7_voice_36 : decode cX7_voice 36 = .ok (.getfield 68, 3) := by decide +kernel
theorem dX7_voice_39 : decode cX7_voice 39 = .ok (.iload_n 1, 1) := by decide +kernel
theorem dX7_voice_40 : decode cX7_voice 40 = .ok (.aaload, 1) := by decide +kernel
theorem dX7_voice_41 : decode cX7_voice 41 = .ok (.iload_n 2, 1) := by decide +kernel
theorem dX7_voice_42 : decode cX7_voice 42 = .ok (.iload_n 3, 1) := by decide +kernel
theorem dX7_voice_43 : decode cX7_voice 43 = .ok (.invokevirtual 237, 3) := by decide +kernel
theorem dX7_voice_46 : decode cX7_voice 46 = .ok (.istore 4, 2) := by decide +kernel
theorem dX7_voice_48 : decode cX7_voice 48 = .ok (.aload_n 0, 1) := by decide +kernel
theorem dX7_voice_49 : decode cX7_voice 49 = .ok (.getfield 28, 3) := by decide +kernel
theorem dX7_voice_52 : decode cX7_voice 52 = .ok (.getfield 241, 3) := by decide +kernel
theorem dX7_voice_55 : decode cX7_voice 55 = .ok (.ifCond .eq 12, 3) := by decide +kernel
theorem dX7_voice_58 : decode cX7_voice 58 = .ok (.aload_n 0, 1) := by decide +kernel
theorem dX7_voice_59 : decode cX7_voice 59 = .ok (.ldc 245, 2) := by decide +kernel
theorem dX7_voice_61 : decode cX7_voice 61 = .ok (.invokevirtual 52, 3) := by decide +kernel
theorem dX7_voice_64 : decode cX7_voice 64 = .ok (.goto 5, 3) := by decide +kernel
theorem dX7_voice_67 : decode cX7_voice 67 = .ok (.iload 4, 2) := by decide +kernel
theorem dX7_voice_69 : decode cX7_voice 69 = .ok (.ireturn, 1) := by decide +kernel
theorem dX7_body_0 : decode cX7_body 0 = .ok (.aload_n 0, 1) := by decide +kernel
theorem dX7_body_1 : decode cX7_body 1 = .ok (.getfield 28, 3) := by decide +kernel
theorem dX7_body_4 : decode cX7_body 4 = .ok (.getfield 246, 3) := by decide +kernel
theorem dX7_body_7 : decode cX7_body 7 = .ok (.iload_n 1, 1) := by decide +kernel
theorem dX7_body_8 : decode cX7_body 8 = .ok (.invokevirtual 107, 3) := by decide +kernel
theorem dX7_body_11 : decode cX7_body 11 = .ok (.ifCond .ne 10, 3) := by decide +kernel
theorem dX7_body_14 : decode cX7_body 14 = .ok (.aload_n 0, 1) := by decide +kernel
theorem dX7_body_15 : decode cX7_body 15 = .ok (.ldc 198, 2) := by decide +kernel
theorem dX7_body_17 : decode cX7_body 17 = .ok (.invokevirtual 52, 3) := by decide +kernel
theorem dX7_body_20 : decode cX7_body 20 = .ok (.ireturn, 1) := by decide +kernel
theorem dX7_body_21 : decode cX7_body 21 = .ok (.aload_n 0, 1) := by decide +kernel
theorem dX7_body_22 : decode cX7_body 22 = .ok (.getfield 28, 3) := by decide +kernel
theorem dX7_body_25 : decode cX7_body 25 = .ok (.getfield 246, 3) := by decide +kernel
theorem dX7_body_28 : decode cX7_body 28 = .ok (.getfield 112, 3) := by decide +kernel
theorem dX7_body_31 : decode cX7_body 31 = .ok (.iload_n 1, 1) := by decide +kernel
theorem dX7_body_32 : decode cX7_body 32 = .ok (.iaload, 1) := by decide +kernel
theorem dX7_body_33 : decode cX7_body 33 = .ok (.ireturn, 1) := by decide +kernel
theorem dX7_sheet_0 : decode cX7_sheet 0 = .ok (.iload_n 1, 1) := by decide +kernel
theorem dX7_sheet_1 : decode cX7_sheet 1 = .ok (.invokestatic 224, 3) := by decide +kernel
theorem dX7_sheet_4 : decode cX7_sheet 4 = .ok (.ifCond .eq 25, 3) := by decide +kernel
theorem dX7_sheet_7 : decode cX7_sheet 7 = .ok (.iload_n 2, 1) := by decide +kernel
theorem dX7_sheet_8 : decode cX7_sheet 8 = .ok (.ifCond .eq 28, 3) := by decide +kernel
theorem dX7_sheet_11 : decode cX7_sheet 11 = .ok (.iload_n 2, 1) := by decide +kernel
theorem dX7_sheet_12 : decode cX7_sheet 12 = .ok (.bipush 8, 2) := by decide +kernel
theorem dX7_sheet_14 : decode cX7_sheet 14 = .ok (.if_icmp .eq 22, 3) := by decide +kernel
theorem dX7_sheet_17 : decode cX7_sheet 17 = .ok (.iload_n 2, 1) := by decide +kernel
theorem dX7_sheet_18 : decode cX7_sheet 18 = .ok (.bipush 16, 2) := by decide +kernel
theorem dX7_sheet_20 : decode cX7_sheet 20 = .ok (.if_icmp .eq 16, 3) := by decide +kernel
theorem dX7_sheet_23 : decode cX7_sheet 23 = .ok (.iload_n 2, 1) := by decide +kernel
theorem dX7_sheet_24 : decode cX7_sheet 24 = .ok (.bipush 32, 2) := by decide +kernel
theorem dX7_sheet_26 : decode cX7_sheet 26 = .ok (.if_icmp .eq 10, 3) := by decide +kernel
theorem dX7_sheet_29 : decode cX7_sheet 29 = .ok (.aload_n 0, 1) := by decide +kernel
theorem dX7_sheet_30 : decode cX7_sheet 30 = .ok (.ldc 51, 2) := by decide +kernel
theorem dX7_sheet_32 : decode cX7_sheet 32 = .ok (.invokevirtual 52, 3) := by decide +kernel
theorem dX7_sheet_35 : decode cX7_sheet 35 = .ok (.ireturn, 1) := by decide +kernel
theorem dX7_sheet_36 : decode cX7_sheet 36 = .ok (.iload_n 2, 1) := by decide +kernel
theorem dX7_sheet_37 : decode cX7_sheet 37 = .ok (.ifCond .eq 14, 3) := by decide +kernel
theorem dX7_sheet_40 : decode cX7_sheet 40 = .ok (.iload_n 3, 1) := by decide +kernel
theorem dX7_sheet_41 : decode cX7_sheet 41 = .ok (.ifCond .ge 10, 3) := by decide +kernel
theorem dX7_sheet_44 : decode cX7_sheet 44 = .ok (.aload_n 0, 1) := by decide +kernel
theorem dX7_sheet_45 : decode cX7_sheet 45 = .ok (.ldc 115, 2) := by decide +kernel
theorem dX7_sheet_47 : decode cX7_sheet 47 = .ok (.invokevirtual 52, 3) := by decide +kernel
theorem dX7_sheet_50 : decode cX7_sheet 50 = .ok (.ireturn, 1) := by decide +kernel
theorem dX7_sheet_51 : decode cX7_sheet 51 = .ok (.iload_n 2, 1) := by decide +kernel
theorem dX7_sheet_52 : decode cX7_sheet 52 = .ok (.ifCond .eq 16, 3) := by decide +kernel
theorem dX7_sheet_55 : decode cX7_sheet 55 = .ok (.iload_n 3, 1) := by decide +kernel
theorem dX7_sheet_56 : decode cX7_sheet 56 = .ok (.bipush 24, 2) := by decide +kernel
theorem dX7_sheet_58 : decode cX7_sheet 58 = .ok (.if_icmp .le 10, 3) := by decide +kernel
theorem dX7_sheet_61 : decode cX7_sheet 61 = .ok (.aload_n 0, 1) := by decide +kernel
theorem dX7_sheet_62 : decode cX7_sheet 62 = .ok (.ldc 51, 2) := by decide +kernel
theorem dX7_sheet_64 : decode cX7_sheet 64 = .ok (.invokevirtual 52, 3) := by decide +kernel
theorem dX7_sheet_67 : decode cX7_sheet 67 = .ok (.ireturn, 1) := by decide +kernel
theorem dX7_sheet_68 : decode cX7_sheet 68 = .ok (.aload_n 0, 1) := by decide +kernel
theorem dX7_sheet_69 : decode cX7_sheet 69 = .ok (.getfield 21, 3) := by decide +kernel
theorem dX7_sheet_72 : decode cX7_sheet 72 = .ok (.iload_n 1, 1) := by decide +kernel
theorem dX7_sheet_73 : decode cX7_sheet 73 = .ok (.aaload, 1) := by decide +kernel
theorem dX7_sheet_74 : decode cX7_sheet 74 = .ok (.iload_n 2, 1) := by decide +kernel
theorem dX7_sheet_75 : decode cX7_sheet 75 = .ok (.iload_n 2, 1) := by decide +kernel
theorem dX7_sheet_76 : decode cX7_sheet 76 = .ok (.ifCond .ne 7, 3) := by decide +kernel
theorem dX7_sheet_79 : decode cX7_sheet 79 = .ok (.iconst 0, 1) := by decide +kernel
theorem dX7_sheet_80 : decode cX7_sheet 80 = .ok (.goto 4, 3) := by decide +kernel
theorem dX7_sheet_83 : decode cX7_sheet 83 = .ok (.iload_n 3, 1) := by decide +kernel
theorem dX7_sheet_84 : decode cX7_sheet 84 = .ok (.invokevirtual 249, 3) := by decide +kernel
theorem dX7_sheet_87 : decode cX7_sheet 87 = .ok (.iconst 1, 1) := by decide +kernel
theorem dX7_sheet_88 : decode cX7_sheet 88 = .ok (.ireturn, 1) := by decide +kernel
theorem dX7_put_0 : decode cX7_put 0 = .ok (.iload_n 1, 1) := by decide +kernel
theorem dX7_put_1 : decode cX7_put 1 = .ok (.invokestatic 224, 3) := by decide +kernel
theorem dX7_put_4 : decode cX7_put 4 = .ok (.ifCond .ne 10, 3) := by decide +kernel
theorem dX7_put_7 : decode cX7_put 7 = .ok (.aload_n 0, 1) := by decide +kernel
theorem dX7_put_8 : decode cX7_put 8 = .ok (.ldc 51, 2) := by decide +kernel
theorem dX7_put_10 : decode cX7_put 10 = .ok (.invokevirtual 52, 3) := by decide +kernel
theorem dX7_put_13 : decode cX7_put 13 = .ok (.ireturn, 1) := by decide +kernel
theorem dX7_put_14 : decode cX7_put 14 = .ok (.aload_n 0, 1) := by decide +kernel
theorem dX7_put_15 : decode cX7_put 15 = .ok (.getfield 21, 3) := by decide +kernel
theorem dX7_put_18 : decode cX7_put 18 = .ok (.iload_n 1, 1) := by decide +kernel
theorem dX7_put_19 : decode cX7_put 19 = .ok (.aaload, 1) := by decide +kernel
theorem dX7_put_20 : decode cX7_put 20 = .ok (.invokevirtual 227, 3) := by decide +kernel
theorem dX7_put_23 : decode cX7_put 23 = .ok (.ifCond .eq 10, 3) := by decide +kernel
theorem dX7_put_26 : decode cX7_put 26 = .ok (.aload_n 0, 1) := by decide +kernel
theorem dX7_put_27 : decode cX7_put 27 = .ok (.ldc 198, 2) := by decide +kernel
theorem dX7_put_29 : decode cX7_put 29 = .ok (.invokevirtual 52, 3) := by decide +kernel
theorem dX7_put_32 : decode cX7_put 32 = .ok (.ireturn, 1) := by decide +kernel
theorem dX7_put_33 : decode cX7_put 33 = .ok (.aload_n 0, 1) := by decide +kernel
theorem dX7_put_34 : decode cX7_put 34 = .ok (.getfield 21, 3) := by decide +kernel
theorem dX7_put_37 : decode cX7_put 37 = .ok (.iload_n 1, 1) := by decide +kernel
theorem dX7_put_38 : decode cX7_put 38 = .ok (.aaload, 1) := by decide +kernel
theorem dX7_put_39 : decode cX7_put 39 = .ok (.getfield 230, 3) := by decide +kernel
theorem dX7_put_42 : decode cX7_put 42 = .ok (.iload_n 2, 1) := by decide +kernel
theorem dX7_put_43 : decode cX7_put 43 = .ok (.invokevirtual 107, 3) := by decide +kernel
theorem dX7_put_46 : decode cX7_put 46 = .ok (.ifCond .ne 10, 3) := by decide +kernel
theorem dX7_put_49 : decode cX7_put 49 = .ok (.aload_n 0, 1) := by decide +kernel
theorem dX7_put_50 : decode cX7_put 50 = .ok (.ldc 51, 2) := by decide +kernel
theorem dX7_put_52 : decode cX7_put 52 = .ok (.invokevirtual 52, 3) := by decide +kernel
theorem dX7_put_55 : decode cX7_put 55 = .ok (.ireturn, 1) := by decide +kernel
theorem dX7_put_56 : decode cX7_put 56 = .ok (.aload_n 0, 1) := by decide +kernel
theorem dX7_put_57 : decode cX7_put 57 = .ok (.getfield 21, 3) := by decide +kernel
theorem dX7_put_60 : decode cX7_put 60 = .ok (.iload_n 1, 1) := by decide +kernel
theorem dX7_put_61 : decode cX7_put 61 = .ok (.aaload, 1) := by decide +kernel
theorem dX7_put_62 : decode cX7_put 62 = .ok (.iload_n 2, 1) := by decide +kernel
theorem dX7_put_63 : decode cX7_put 63 = .ok (.iload_n 3, 1) := by decide +kernel
theorem dX7_put_64 : decode cX7_put 64 = .ok (.invokevirtual 253, 3) := by decide +kernel
theorem dX7_put_67 : decode cX7_put 67 = .ok (.iconst 1, 1) := by decide +kernel
theorem dX7_put_68 : decode cX7_put 68 = .ok (.ireturn, 1) := by decide +kernel
theorem dX7_move_0 : decode cX7_move 0 = .ok (.iload_n 1, 1) := by decide +kernel
theorem dX7_move_1 : decode cX7_move 1 = .ok (.invokestatic 224, 3) := by decide +kernel
theorem dX7_move_4 : decode cX7_move 4 = .ok (.ifCond .eq 10, 3) := by decide +kernel
theorem dX7_move_7 : decode cX7_move 7 = .ok (.iload_n 3, 1) := by decide +kernel
theorem dX7_move_8 : decode cX7_move 8 = .ok (.invokestatic 224, 3) := by decide +kernel
theorem dX7_move_11 : decode cX7_move 11 = .ok (.ifCond .ne 10, 3) := by decide +kernel
theorem dX7_move_14 : decode cX7_move 14 = .ok (.aload_n 0, 1) := by decide +kernel
theorem dX7_move_15 : decode cX7_move 15 = .ok (.ldc 51, 2) := by decide +kernel
theorem dX7_move_17 : decode cX7_move 17 = .ok (.invokevirtual 52, 3) := by decide +kernel
theorem dX7_move_20 : decode cX7_move 20 = .ok (.ireturn, 1) := by decide +kernel
theorem dX7_move_21 : decode cX7_move 21 = .ok (.aload_n 0, 1) := by decide +kernel
theorem dX7_move_22 : decode cX7_move 22 = .ok (.getfield 21, 3) := by decide +kernel
theorem dX7_move_25 : decode cX7_move 25 = .ok (.iload_n 1, 1) := by decide +kernel
theorem dX7_move_26 : decode cX7_move 26 = .ok (.aaload, 1) := by decide +kernel
theorem dX7_move_27 : decode cX7_move 27 = .ok (.astore 6, 2) := by decide +kernel
theorem dX7_move_29 : decode cX7_move 29 = .ok (.aload_n 0, 1) := by decide +kernel
theorem dX7_move_30 : decode cX7_move 30 = .ok (.getfield 21, 3) := by decide +kernel
theorem dX7_move_33 : decode cX7_move 33 = .ok (.iload_n 3, 1) := by decide +kernel
theorem dX7_move_34 : decode cX7_move 34 = .ok (.aaload, 1) := by decide +kernel
theorem dX7_move_35 : decode cX7_move 35 = .ok (.astore 7, 2) := by decide +kernel
theorem dX7_move_37 : decode cX7_move 37 = .ok (.aload 6, 2) := by decide +kernel
theorem dX7_move_39 : decode cX7_move 39 = .ok (.invokevirtual 227, 3) := by decide +kernel
theorem dX7_move_42 : decode cX7_move 42 = .ok (.ifCond .ne 11, 3) := by decide +kernel
theorem dX7_move_45 : decode cX7_move 45 = .ok (.aload 7, 2) := by decide +kernel
theorem dX7_move_47 : decode cX7_move 47 = .ok (.invokevirtual 227, 3) := by decide +kernel
theorem dX7_move_50 : decode cX7_move 50 = .ok (.ifCond .eq 10, 3) := by decide +kernel
theorem dX7_move_53 : decode cX7_move 53 = .ok (.aload_n 0, 1) := by decide +kernel
theorem dX7_move_54 : decode cX7_move 54 = .ok (.ldc 198, 2) := by decide +kernel
theorem dX7_move_56 : decode cX7_move 56 = .ok (.invokevirtual 52, 3) := by decide +kernel
theorem dX7_move_59 : decode cX7_move 59 = .ok (.ireturn, 1) := by decide +kernel
theorem dX7_move_60 : decode cX7_move 60 = .ok (.aload 6, 2) := by decide +kernel
theorem dX7_move_62 : decode cX7_move 62 = .ok (.getfield 256, 3) := by decide +kernel
theorem dX7_move_65 : decode cX7_move 65 = .ok (.aload 7, 2) := by decide +kernel
theorem dX7_move_67 : decode cX7_move 67 = .ok (.getfield 256, 3) := by decide +kernel
theorem dX7_move_70 : decode cX7_move 70 = .ok (.if_icmp .eq 10, 3) := by decide +kernel
theorem dX7_move_73 : decode cX7_move 73 = .ok (.aload_n 0, 1) := by decide +kernel
theorem dX7_move_74 : decode cX7_move 74 = .ok (.ldc 102, 2) := by decide +kernel
theorem dX7_move_76 : decode cX7_move 76 = .ok (.invokevirtual 52, 3) := by decide +kernel
theorem dX7_move_79 : decode cX7_move 79 = .ok (.ireturn, 1) := by decide +kernel
theorem dX7_move_80 : decode cX7_move 80 = .ok (.aload 6, 2) := by decide +kernel
theorem dX7_move_82 : decode cX7_move 82 = .ok (.getfield 230, 3) := by decide +kernel
theorem dX7_move_85 : decode cX7_move 85 = .ok (.iload_n 2, 1) := by decide +kernel
theorem dX7_move_86 : decode cX7_move 86 = .ok (.iload 5, 2) := by decide +kernel
theorem dX7_move_88 : decode cX7_move 88 = .ok (.invokevirtual 259, 3) := by decide +kernel
theorem dX7_move_91 : decode cX7_move 91 = .ok (.ifCond .eq 18, 3) := by decide +kernel
theorem dX7_move_94 : decode cX7_move 94 = .ok (.aload 7, 2) := by decide +kernel
theorem dX7_move_96 : decode cX7_move 96 = .ok (.getfield 230, 3) := by decide +kernel
theorem dX7_move_99 : decode cX7_move 99 = .ok (.iload 4, 2) := by decide +kernel
theorem dX7_move_101 : decode cX7_move 101 = .ok (.iload 5, 2) := by decide +kernel
theorem dX7_move_103 : decode cX7_move 103 = .ok (.invokevirtual 259, 3) := by decide +kernel
theorem dX7_move_106 : decode cX7_move 106 = .ok (.ifCond .ne 10, 3) := by decide +kernel
theorem dX7_move_109 : decode cX7_move 109 = .ok (.aload_n 0, 1) := by decide +kernel
theorem dX7_move_110 : decode cX7_move 110 = .ok (.ldc 51, 2) := by decide +kernel
theorem dX7_move_112 : decode cX7_move 112 = .ok (.invokevirtual 52, 3) := by decide +kernel
theorem dX7_move_115 : decode cX7_move 115 = .ok (.ireturn, 1) := by decide +kernel
theorem dX7_move_116 : decode cX7_move 116 = .ok (.aload 6, 2) := by decide +kernel
theorem dX7_move_118 : decode cX7_move 118 = .ok (.getfield 230, 3) := by decide +kernel
theorem dX7_move_121 : decode cX7_move 121 = .ok (.getfield 112, 3) := by decide +kernel
theorem dX7_move_124 : decode cX7_move 124 = .ok (.iload_n 2, 1) := by decide +kernel
theorem dX7_move_125 : decode cX7_move 125 = .ok (.aload 7, 2) := by decide +kernel
theorem dX7_move_127 : decode cX7_move 127 = .ok (.getfield 230, 3) := by decide +kernel
theorem dX7_move_130 : decode cX7_move 130 = .ok (.getfield 112, 3) := by decide +kernel
theorem dX7_move_133 : decode cX7_move 133 = .ok (.iload 4, 2) := by decide +kernel
theorem dX7_move_135 : decode cX7_move 135 = .ok (.iload 5, 2) := by decide +kernel
theorem dX7_move_137 : decode cX7_move 137 = .ok (.invokestatic 263, 3) := by decide +kernel
theorem dX7_move_140 : decode cX7_move 140 = .ok (.iload 5, 2) := by decide +kernel
theorem dX7_move_142 : decode cX7_move 142 = .ok (.ireturn, 1) := by decide +kernel
theorem dX7_weights_0 : decode cX7_weights 0 = .ok (.iload_n 1, 1) := by decide +kernel
theorem dX7_weights_1 : decode cX7_weights 1 = .ok (.invokestatic 224, 3) := by decide +kernel
theorem dX7_weights_4 : decode cX7_weights 4 = .ok (.ifCond .ne 10, 3) := by decide +kernel
theorem dX7_weights_7 : decode cX7_weights 7 = .ok (.aload_n 0, 1) := by decide +kernel
theorem dX7_weights_8 : decode cX7_weights 8 = .ok (.ldc 51, 2) := by decide +kernel
theorem dX7_weights_10 : decode cX7_weights 10 = .ok (.invokevirtual 52, 3) := by decide +kernel
theorem dX7_weights_13 : decode cX7_weights 13 = .ok (.ireturn, 1) := by decide +kernel
theorem dX7_weights_14 : decode cX7_weights 14 = .ok (.aload_n 0, 1) := by decide +kernel
theorem dX7_weights_15 : decode cX7_weights 15 = .ok (.getfield 21, 3) := by decide +kernel
theorem dX7_weights_18 : decode cX7_weights 18 = .ok (.iload_n 1, 1) := by decide +kernel
theorem dX7_weights_19 : decode cX7_weights 19 = .ok (.aaload, 1) := by decide +kernel
theorem dX7_weights_20 : decode cX7_weights 20 = .ok (.invokevirtual 227, 3) := by decide +kernel
theorem dX7_weights_23 : decode cX7_weights 23 = .ok (.ifCond .eq 10, 3) := by decide +kernel
theorem dX7_weights_26 : decode cX7_weights 26 = .ok (.aload_n 0, 1) := by decide +kernel
theorem dX7_weights_27 : decode cX7_weights 27 = .ok (.ldc 198, 2) := by decide +kernel
theorem dX7_weights_29 : decode cX7_weights 29 = .ok (.invokevirtual 52, 3) := by decide +kernel
theorem dX7_weights_32 : decode cX7_weights 32 = .ok (.ireturn, 1) := by decide +kernel
theorem dX7_weights_33 : decode cX7_weights 33 = .ok (.aload_n 0, 1) := by decide +kernel
theorem dX7_weights_34 : decode cX7_weights 34 = .ok (.getfield 12, 3) := by decide +kernel
theorem dX7_weights_37 : decode cX7_weights 37 = .ok (.aload_n 0, 1) := by decide +kernel
theorem dX7_weights_38 : decode cX7_weights 38 = .ok (.getfield 21, 3) := by decide +kernel
theorem dX7_weights_41 : decode cX7_weights 41 = .ok (.iload_n 1, 1) := by decide +kernel
theorem dX7_weights_42 : decode cX7_weights 42 = .ok (.aaload, 1) := by decide +kernel
theorem dX7_weights_43 : decode cX7_weights 43 = .ok (.getfield 230, 3) := by decide +kernel
theorem dX7_weights_46 : decode cX7_weights 46 = .ok (.invokevirtual 269, 3) := by decide +kernel
theorem dX7_weights_49 : decode cX7_weights 49 = .ok (.ireturn, 1) := by decide +kernel
theorem dX7_judge_0 : decode cX7_judge 0 = .ok (.iload_n 1, 1) := by decide +kernel
theorem dX7_judge_1 : decode cX7_judge 1 = .ok (.invokestatic 224, 3) := by decide +kernel
theorem dX7_judge_4 : decode cX7_judge 4 = .ok (.ifCond .ne 10, 3) := by decide +kernel
theorem dX7_judge_7 : decode cX7_judge 7 = .ok (.aload_n 0, 1) := by decide +kernel
theorem dX7_judge_8 : decode cX7_judge 8 = .ok (.ldc 51, 2) := by decide +kernel
theorem dX7_judge_10 : decode cX7_judge 10 = .ok (.invokevirtual 52, 3) := by decide +kernel
theorem dX7_judge_13 : decode cX7_judge 13 = .ok (.ireturn, 1) := by decide +kernel
theorem dX7_judge_14 : decode cX7_judge 14 = .ok (.aload_n 0, 1) := by decide +kernel
theorem dX7_judge_15 : decode cX7_judge 15 = .ok (.getfield 21, 3) := by decide +kernel
theorem dX7_judge_18 : decode cX7_judge 18 = .ok (.iload_n 1, 1) := by decide +kernel
theorem dX7_judge_19 : decode cX7_judge 19 = .ok (.aaload, 1) := by decide +kernel
theorem dX7_judge_20 : decode cX7_judge 20 = .ok (.invokevirtual 227, 3) := by decide +kernel
theorem dX7_judge_23 : decode cX7_judge 23 = .ok (.ifCond .eq 10, 3) := by decide +kernel
theorem dX7_judge_26 : decode cX7_judge 26 = .ok (.aload_n 0, 1) := by decide +kernel
theorem dX7_judge_27 : decode cX7_judge 27 = .ok (.ldc 198, 2) := by decide +kernel
theorem dX7_judge_29 : decode cX7_judge 29 = .ok (.invokevirtual 52, 3) := by decide +kernel
theorem dX7_judge_32 : decode cX7_judge 32 = .ok (.ireturn, 1) := by decide +kernel
theorem dX7_judge_33 : decode cX7_judge 33 = .ok (.aload_n 0, 1) := by decide +kernel
theorem dX7_judge_34 : decode cX7_judge 34 = .ok (.getfield 21, 3) := by decide +kernel
theorem dX7_judge_37 : decode cX7_judge 37 = .ok (.iload_n 1, 1) := by decide +kernel
theorem dX7_judge_38 : decode cX7_judge 38 = .ok (.aaload, 1) := by decide +kernel
theorem dX7_judge_39 : decode cX7_judge 39 = .ok (.getfield 230, 3) := by decide +kernel
theorem dX7_judge_42 : decode cX7_judge 42 = .ok (.aload_n 0, 1) := by decide +kernel
theorem dX7_judge_43 : decode cX7_judge 43 = .ok (.getfield 12, 3) := by decide +kernel
theorem dX7_judge_46 : decode cX7_judge 46 = .ok (.getfield 103, 3) := by decide +kernel
theorem dX7_judge_49 : decode cX7_judge 49 = .ok (.invokevirtual 273, 3) := by decide +kernel
theorem dX7_judge_52 : decode cX7_judge 52 = .ok (.ireturn, 1) := by decide +kernel
theorem dX7_image_0 : decode cX7_image 0 = .ok (.aload_n 0, 1) := by decide +kernel
theorem dX7_image_1 : decode cX7_image 1 = .ok (.getfield 16, 3) := by decide +kernel
theorem dX7_image_4 : decode cX7_image 4 = .ok (.aload_n 0, 1) := by decide +kernel
theorem dX7_image_5 : decode cX7_image 5 = .ok (.getfield 12, 3) := by decide +kernel
theorem dX7_image_8 : decode cX7_image 8 = .ok (.invokevirtual 276, 3) := by decide +kernel
theorem dX7_image_11 : decode cX7_image 11 = .ok (.aload_n 0, 1) := by decide +kernel
theorem dX7_image_12 : decode cX7_image 12 = .ok (.dup, 1) := by decide +kernel
theorem dX7_image_13 : decode cX7_image 13 = .ok (.getfield 280, 3) := by decide +kernel
theorem dX7_image_16 : decode cX7_image 16 = .ok (.iconst 1, 1) := by decide +kernel
theorem dX7_image_17 : decode cX7_image 17 = .ok (.iadd, 1) := by decide +kernel
theorem dX7_image_18 : decode cX7_image 18 = .ok (.putfield 280, 3) := by decide +kernel
theorem dX7_image_21 : decode cX7_image 21 = .ok (.aload_n 0, 1) := by decide +kernel
theorem dX7_image_22 : decode cX7_image 22 = .ok (.getfield 280, 3) := by decide +kernel
theorem dX7_image_25 : decode cX7_image 25 = .ok (.ireturn, 1) := by decide +kernel
theorem dX7_restore_0 : decode cX7_restore 0 = .ok (.aload_n 0, 1) := by decide +kernel
theorem dX7_restore_1 : decode cX7_restore 1 = .ok (.getfield 280, 3) := by decide +kernel
theorem dX7_restore_4 : decode cX7_restore 4 = .ok (.ifCond .ne 10, 3) := by decide +kernel
theorem dX7_restore_7 : decode cX7_restore 7 = .ok (.aload_n 0, 1) := by decide +kernel
theorem dX7_restore_8 : decode cX7_restore 8 = .ok (.ldc 198, 2) := by decide +kernel
theorem dX7_restore_10 : decode cX7_restore 10 = .ok (.invokevirtual 52, 3) := by decide +kernel
theorem dX7_restore_13 : decode cX7_restore 13 = .ok (.ireturn, 1) := by decide +kernel
theorem dX7_restore_14 : decode cX7_restore 14 = .ok (.aload_n 0, 1) := by decide +kernel
theorem dX7_restore_15 : decode cX7_restore 15 = .ok (.getfield 12, 3) := by decide +kernel
theorem dX7_restore_18 : decode cX7_restore 18 = .ok (.aload_n 0, 1) := by decide +kernel
theorem dX7_restore_19 : decode cX7_restore 19 = .ok (.getfield 16, 3) := by decide +kernel
theorem dX7_restore_22 : decode cX7_restore 22 = .ok (.invokevirtual 276, 3) := by decide +kernel
theorem dX7_restore_25 : decode cX7_restore 25 = .ok (.aload_n 0, 1) := by decide +kernel
theorem dX7_restore_26 : decode cX7_restore 26 = .ok (.getfield 12, 3) := by decide +kernel
theorem dX7_restore_29 : decode cX7_restore 29 = .ok (.getfield 89, 3) := by decide +kernel
theorem dX7_restore_32 : decode cX7_restore 32 = .ok (.ireturn, 1) := by decide +kernel
theorem dX7_tell_0 : decode cX7_tell 0 = .ok (.aload_n 0, 1) := by decide +kernel
theorem dX7_tell_1 : decode cX7_tell 1 = .ok (.getfield 12, 3) := by decide +kernel
theorem dX7_tell_4 : decode cX7_tell 4 = .ok (.getfield 283, 3) := by decide +kernel
theorem dX7_tell_7 : decode cX7_tell 7 = .ok (.getfield 120, 3) := by decide +kernel
theorem dX7_tell_10 : decode cX7_tell 10 = .ok (.bipush 24, 2) := by decide +kernel
theorem dX7_tell_12 : decode cX7_tell 12 = .ok (.if_icmp .lt 10, 3) := by decide +kernel
theorem dX7_tell_15 : decode cX7_tell 15 = .ok (.aload_n 0, 1) := by decide +kernel
theorem dX7_tell_16 : decode cX7_tell 16 = .ok (.ldc 60, 2) := by decide +kernel
theorem dX7_tell_18 : decode cX7_tell 18 = .ok (.invokevirtual 52, 3) := by decide +kernel
theorem dX7_tell_21 : decode cX7_tell 21 = .ok (.ireturn, 1) := by decide +kernel
theorem dX7_tell_22 : decode cX7_tell 22 = .ok (.aload_n 0, 1) := by decide +kernel
theorem dX7_tell_23 : decode cX7_tell 23 = .ok (.getfield 12, 3) := by decide +kernel
theorem dX7_tell_26 : decode cX7_tell 26 = .ok (.getfield 283, 3) := by decide +kernel
theorem dX7_tell_29 : decode cX7_tell 29 = .ok (.iload_n 1, 1) := by decide +kernel
theorem dX7_tell_30 : decode cX7_tell 30 = .ok (.invokevirtual 134, 3) := by decide +kernel
theorem dX7_tell_33 : decode cX7_tell 33 = .ok (.aload_n 0, 1) := by decide +kernel
theorem dX7_tell_34 : decode cX7_tell 34 = .ok (.getfield 12, 3) := by decide +kernel
theorem dX7_tell_37 : decode cX7_tell 37 = .ok (.getfield 283, 3) := by decide +kernel
theorem dX7_tell_40 : decode cX7_tell 40 = .ok (.getfield 120, 3) := by decide +kernel
theorem dX7_tell_43 : decode cX7_tell 43 = .ok (.ireturn, 1) := by decide +kernel
theorem dX7_check_0 : decode cX7_check 0 = .ok (.aload_n 0, 1) := by decide +kernel
theorem dX7_check_1 : decode cX7_check 1 = .ok (.getfield 12, 3) := by decide +kernel
theorem dX7_check_4 : decode cX7_check 4 = .ok (.getfield 283, 3) := by decide +kernel
theorem dX7_check_7 : decode cX7_check 7 = .ok (.aload_n 0, 1) := by decide +kernel
theorem dX7_check_8 : decode cX7_check 8 = .ok (.getfield 12, 3) := by decide +kernel
theorem dX7_check_11 : decode cX7_check 11 = .ok (.getfield 103, 3) := by decide +kernel
theorem dX7_check_14 : decode cX7_check 14 = .ok (.invokevirtual 273, 3) := by decide +kernel
theorem dX7_check_17 : decode cX7_check 17 = .ok (.istore_n 1, 1) := by decide +kernel
theorem dX7_check_18 : decode cX7_check 18 = .ok (.iload_n 1, 1) := by decide +kernel
theorem dX7_check_19 : decode cX7_check 19 = .ok (.aload_n 0, 1) := by decide +kernel
theorem dX7_check_20 : decode cX7_check 20 = .ok (.getfield 12, 3) := by decide +kernel
theorem dX7_check_23 : decode cX7_check 23 = .ok (.getfield 283, 3) := by decide +kernel
theorem dX7_check_26 : decode cX7_check 26 = .ok (.getfield 120, 3) := by decide +kernel
theorem dX7_check_29 : decode cX7_check 29 = .ok (.if_icmp .ne 7, 3) := by decide +kernel
theorem dX7_check_32 : decode cX7_check 32 = .ok (.iconst 0, 1) := by decide +kernel
theorem dX7_check_33 : decode cX7_check 33 = .ok (.goto 6, 3) := by decide +kernel
theorem dX7_check_36 : decode cX7_check 36 = .ok (.iconst 1, 1) := by decide +kernel
theorem dX7_check_37 : decode cX7_check 37 = .ok (.iload_n 1, 1) := by decide +kernel
theorem dX7_check_38 : decode cX7_check 38 = .ok (.iadd, 1) := by decide +kernel
theorem dX7_check_39 : decode cX7_check 39 = .ok (.istore_n 2, 1) := by decide +kernel
theorem dX7_check_40 : decode cX7_check 40 = .ok (.aload_n 0, 1) := by decide +kernel
theorem dX7_check_41 : decode cX7_check 41 = .ok (.getfield 12, 3) := by decide +kernel
theorem dX7_check_44 : decode cX7_check 44 = .ok (.getfield 283, 3) := by decide +kernel
theorem dX7_check_47 : decode cX7_check 47 = .ok (.iconst 0, 1) := by decide +kernel
theorem dX7_check_48 : decode cX7_check 48 = .ok (.putfield 120, 3) := by decide +kernel
theorem dX7_check_51 : decode cX7_check 51 = .ok (.iload_n 2, 1) := by decide +kernel
theorem dX7_check_52 : decode cX7_check 52 = .ok (.ireturn, 1) := by decide +kernel
theorem dX7_count_0 : decode cX7_count 0 = .ok (.iload_n 1, 1) := by decide +kernel
theorem dX7_count_1 : decode cX7_count 1 = .ok (.tableswitch 135 0 8 #[51, 59, 70, 78, 86, 94, 105, 116, 127], 51) := by decide +kernel
theorem dX7_count_52 : decode cX7_count 52 = .ok (.aload_n 0, 1) := by decide +kernel
theorem dX7_count_53 : decode cX7_count 53 = .ok (.getfield 12, 3) := by decide +kernel
theorem dX7_count_56 : decode cX7_count 56 = .ok (.getfield 56, 3) := by decide +kernel
theorem dX7_count_59 : decode cX7_count 59 = .ok (.ireturn, 1) := by decide +kernel
theorem dX7_count_60 : decode cX7_count 60 = .ok (.aload_n 0, 1) := by decide +kernel
theorem dX7_count_61 : decode cX7_count 61 = .ok (.getfield 12, 3) := by decide +kernel
theorem dX7_count_64 : decode cX7_count 64 = .ok (.getfield 103, 3) := by decide +kernel
theorem dX7_count_67 : decode cX7_count 67 = .ok (.getfield 120, 3) := by decide +kernel
theorem dX7_count_70 : decode cX7_count 70 = .ok (.ireturn, 1) := by decide +kernel
theorem dX7_count_71 : decode cX7_count 71 = .ok (.aload_n 0, 1) := by decide +kernel
theorem dX7_count_72 : decode cX7_count 72 = .ok (.getfield 12, 3) := by decide +kernel
theorem dX7_count_75 : decode cX7_count 75 = .ok (.getfield 89, 3) := by decide +kernel
theorem dX7_count_78 : decode cX7_count 78 = .ok (.ireturn, 1) := by decide +kernel
theorem dX7_count_79 : decode cX7_count 79 = .ok (.aload_n 0, 1) := by decide +kernel
theorem dX7_count_80 : decode cX7_count 80 = .ok (.getfield 12, 3) := by decide +kernel
theorem dX7_count_83 : decode cX7_count 83 = .ok (.getfield 184, 3) := by decide +kernel
theorem dX7_count_86 : decode cX7_count 86 = .ok (.ireturn, 1) := by decide +kernel
theorem dX7_count_87 : decode cX7_count 87 = .ok (.aload_n 0, 1) := by decide +kernel
theorem dX7_count_88 : decode cX7_count 88 = .ok (.getfield 12, 3) := by decide +kernel
theorem dX7_count_91 : decode cX7_count 91 = .ok (.getfield 286, 3) := by decide +kernel
theorem dX7_count_94 : decode cX7_count 94 = .ok (.ireturn, 1) := by decide +kernel
theorem dX7_count_95 : decode cX7_count 95 = .ok (.aload_n 0, 1) := by decide +kernel
theorem dX7_count_96 : decode cX7_count 96 = .ok (.getfield 12, 3) := by decide +kernel
theorem dX7_count_99 : decode cX7_count 99 = .ok (.getfield 129, 3) := by decide +kernel
theorem dX7_count_102 : decode cX7_count 102 = .ok (.getfield 120, 3) := by decide +kernel
theorem dX7_count_105 : decode cX7_count 105 = .ok (.ireturn, 1) := by decide +kernel
theorem dX7_count_106 : decode cX7_count 106 = .ok (.aload_n 0, 1) := by decide +kernel
theorem dX7_count_107 : decode cX7_count 107 = .ok (.getfield 12, 3) := by decide +kernel
theorem dX7_count_110 : decode cX7_count 110 = .ok (.getfield 283, 3) := by decide +kernel
theorem dX7_count_113 : decode cX7_count 113 = .ok (.getfield 120, 3) := by decide +kernel
theorem dX7_count_116 : decode cX7_count 116 = .ok (.ireturn, 1) := by decide +kernel
theorem dX7_count_117 : decode cX7_count 117 = .ok (.aload_n 0, 1) := by decide +kernel
theorem dX7_count_118 : decode cX7_count 118 = .ok (.getfield 28, 3) := by decide +kernel
theorem dX7_count_121 : decode cX7_count 121 = .ok (.getfield 246, 3) := by decide +kernel
theorem dX7_count_124 : decode cX7_count 124 = .ok (.getfield 120, 3) := by decide +kernel
theorem dX7_count_127 : decode cX7_count 127 = .ok (.ireturn, 1) := by decide +kernel
theorem dX7_count_128 : decode cX7_count 128 = .ok (.aload_n 0, 1) := by decide +kernel
theorem dX7_count_129 : decode cX7_count 129 = .ok (.getfield 12, 3) := by decide +kernel
theorem dX7_count_132 : decode cX7_count 132 = .ok (.getfield 187, 3) := by decide +kernel
theorem dX7_count_135 : decode cX7_count 135 = .ok (.ireturn, 1) := by decide +kernel
theorem dX7_count_136 : decode cX7_count 136 = .ok (.aload_n 0, 1) := by decide +kernel
theorem dX7_count_137 : decode cX7_count 137 = .ok (.ldc 51, 2) := by decide +kernel
theorem dX7_count_139 : decode cX7_count 139 = .ok (.invokevirtual 52, 3) := by decide +kernel
theorem dX7_count_142 : decode cX7_count 142 = .ok (.ireturn, 1) := by decide +kernel
theorem dX7_told_0 : decode cX7_told 0 = .ok (.iload_n 1, 1) := by decide +kernel
theorem dX7_told_1 : decode cX7_told 1 = .ok (.iconst 1, 1) := by decide +kernel
theorem dX7_told_2 : decode cX7_told 2 = .ok (.if_icmp .lt 9, 3) := by decide +kernel
theorem dX7_told_5 : decode cX7_told 5 = .ok (.iload_n 1, 1) := by decide +kernel
theorem dX7_told_6 : decode cX7_told 6 = .ok (.bipush 6, 2) := by decide +kernel
theorem dX7_told_8 : decode cX7_told 8 = .ok (.if_icmp .le 10, 3) := by decide +kernel
theorem dX7_told_11 : decode cX7_told 11 = .ok (.aload_n 0, 1) := by decide +kernel
theorem dX7_told_12 : decode cX7_told 12 = .ok (.ldc 51, 2) := by decide +kernel
theorem dX7_told_14 : decode cX7_told 14 = .ok (.invokevirtual 52, 3) := by decide +kernel
theorem dX7_told_17 : decode cX7_told 17 = .ok (.ireturn, 1) := by decide +kernel
theorem dX7_told_18 : decode cX7_told 18 = .ok (.aload_n 0, 1) := by decide +kernel
theorem dX7_told_19 : decode cX7_told 19 = .ok (.getfield 39, 3) := by decide +kernel
theorem dX7_told_22 : decode cX7_told 22 = .ok (.iload_n 1, 1) := by decide +kernel
theorem dX7_told_23 : decode cX7_told 23 = .ok (.iaload, 1) := by decide +kernel
theorem dX7_told_24 : decode cX7_told 24 = .ok (.ireturn, 1) := by decide +kernel
theorem dX7_failed_0 : decode cX7_failed 0 = .ok (.ldc_w 289, 3) := by decide +kernel
theorem dX7_failed_3 : decode cX7_failed 3 = .ok (.iload_n 1, 1) := by decide +kernel
theorem dX7_failed_4 : decode cX7_failed 4 = .ok (.isub, 1) := by decide +kernel
theorem dX7_failed_5 : decode cX7_failed 5 = .ok (.istore_n 2, 1) := by decide +kernel
theorem dX7_failed_6 : decode cX7_failed 6 = .ok (.iload_n 2, 1) := by decide +kernel
theorem dX7_failed_7 : decode cX7_failed 7 = .ok (.iconst 1, 1) := by decide +kernel
theorem dX7_failed_8 : decode cX7_failed 8 = .ok (.if_icmp .lt 19, 3) := by decide +kernel
theorem dX7_failed_11 : decode cX7_failed 11 = .ok (.iload_n 2, 1) := by decide +kernel
theorem dX7_failed_12 : decode cX7_failed 12 = .ok (.bipush 6, 2) := by decide +kernel
theorem dX7_failed_14 : decode cX7_failed 14 = .ok (.if_icmp .gt 13, 3) := by decide +kernel
theorem dX7_failed_17 : decode cX7_failed 17 = .ok (.aload_n 0, 1) := by decide +kernel
theorem dX7_failed_18 : decode cX7_failed 18 = .ok (.getfield 39, 3) := by decide +kernel
theorem dX7_failed_21 : decode cX7_failed 21 = .ok (.iload_n 2, 1) := by decide +kernel
theorem dX7_failed_22 : decode cX7_failed 22 = .ok (.dup2, 1) := by decide +kernel
theorem dX7_failed_23 : decode cX7_failed 23 = .ok (.iaload, 1) := by decide +kernel
theorem dX7_failed_24 : decode cX7_failed 24 = .ok (.iconst 1, 1) := by decide +kernel
theorem dX7_failed_25 : decode cX7_failed 25 = .ok (.iadd, 1) := by decide +kernel
theorem dX7_failed_26 : decode cX7_failed 26 = .ok (.iastore, 1) := by decide +kernel
theorem dX7_failed_27 : decode cX7_failed 27 = .ok (.iload_n 1, 1) := by decide +kernel
theorem dX7_failed_28 : decode cX7_failed 28 = .ok (.ireturn, 1) := by decide +kernel
theorem dX7_isKindAndM_0 : decode cX7_isKindAndM 0 = .ok (.iload_n 0, 1) := by decide +kernel
theorem dX7_isKindAndM_1 : decode cX7_isKindAndM 1 = .ok (.ifCond .lt 13, 3) := by decide +kernel
theorem dX7_isKindAndM_4 : decode cX7_isKindAndM 4 = .ok (.iload_n 0, 1) := by decide +kernel
theorem dX7_isKindAndM_5 : decode cX7_isKindAndM 5 = .ok (.bipush 70, 2) := by decide +kernel
theorem dX7_isKindAndM_7 : decode cX7_isKindAndM 7 = .ok (.if_icmp .ge 7, 3) := by decide +kernel
theorem dX7_isKindAndM_10 : decode cX7_isKindAndM 10 = .ok (.iconst 1, 1) := by decide +kernel
theorem dX7_isKindAndM_11 : decode cX7_isKindAndM 11 = .ok (.goto 4, 3) := by decide +kernel
theorem dX7_isKindAndM_14 : decode cX7_isKindAndM 14 = .ok (.iconst 0, 1) := by decide +kernel
theorem dX7_isKindAndM_15 : decode cX7_isKindAndM 15 = .ok (.ireturn, 1) := by decide +kernel
theorem dX7_isWeight_0 : decode cX7_isWeight 0 = .ok (.iload_n 0, 1) := by decide +kernel
theorem dX7_isWeight_1 : decode cX7_isWeight 1 = .ok (.ifCond .lt 13, 3) := by decide +kernel
theorem dX7_isWeight_4 : decode cX7_isWeight 4 = .ok (.iload_n 0, 1) := by decide +kernel
theorem dX7_isWeight_5 : decode cX7_isWeight 5 = .ok (.bipush 99, 2) := by decide +kernel
theorem dX7_isWeight_7 : decode cX7_isWeight 7 = .ok (.if_icmp .gt 7, 3) := by decide +kernel
theorem dX7_isWeight_10 : decode cX7_isWeight 10 = .ok (.iconst 1, 1) := by decide +kernel
theorem dX7_isWeight_11 : decode cX7_isWeight 11 = .ok (.goto 4, 3) := by decide +kernel
theorem dX7_isWeight_14 : decode cX7_isWeight 14 = .ok (.iconst 0, 1) := by decide +kernel
theorem dX7_isWeight_15 : decode cX7_isWeight 15 = .ok (.ireturn, 1) := by decide +kernel
theorem dX7_isUse_0 : decode cX7_isUse 0 = .ok (.iload_n 0, 1) := by decide +kernel
theorem dX7_isUse_1 : decode cX7_isUse 1 = .ok (.ifCond .lt 12, 3) := by decide +kernel
theorem dX7_isUse_4 : decode cX7_isUse 4 = .ok (.iload_n 0, 1) := by decide +kernel
theorem dX7_isUse_5 : decode cX7_isUse 5 = .ok (.iconst 2, 1) := by decide +kernel
theorem dX7_isUse_6 : decode cX7_isUse 6 = .ok (.if_icmp .ge 7, 3) := by decide +kernel
theorem dX7_isUse_9 : decode cX7_isUse 9 = .ok (.iconst 1, 1) := by decide +kernel
theorem dX7_isUse_10 : decode cX7_isUse 10 = .ok (.goto 4, 3) := by decide +kernel
theorem dX7_isUse_13 : decode cX7_isUse 13 = .ok (.iconst 0, 1) := by decide +kernel
theorem dX7_isUse_14 : decode cX7_isUse 14 = .ok (.ireturn, 1) := by decide +kernel
theorem dX7_isWay_0 : decode cX7_isWay 0 = .ok (.iload_n 0, 1) := by decide +kernel
theorem dX7_isWay_1 : decode cX7_isWay 1 = .ok (.ifCond .lt 12, 3) := by decide +kernel
theorem dX7_isWay_4 : decode cX7_isWay 4 = .ok (.iload_n 0, 1) := by decide +kernel
theorem dX7_isWay_5 : decode cX7_isWay 5 = .ok (.iconst 3, 1) := by decide +kernel
theorem dX7_isWay_6 : decode cX7_isWay 6 = .ok (.if_icmp .ge 7, 3) := by decide +kernel
theorem dX7_isWay_9 : decode cX7_isWay 9 = .ok (.iconst 1, 1) := by decide +kernel
theorem dX7_isWay_10 : decode cX7_isWay 10 = .ok (.goto 4, 3) := by decide +kernel
theorem dX7_isWay_13 : decode cX7_isWay 13 = .ok (.iconst 0, 1) := by decide +kernel
theorem dX7_isWay_14 : decode cX7_isWay 14 = .ok (.ireturn, 1) := by decide +kernel
theorem dX7_isTimeAsked_0 : decode cX7_isTimeAsked 0 = .ok (.iload_n 0, 1) := by decide +kernel
theorem dX7_isTimeAsked_1 : decode cX7_isTimeAsked 1 = .ok (.ifCond .lt 14, 3) := by decide +kernel
theorem dX7_isTimeAsked_4 : decode cX7_isTimeAsked 4 = .ok (.iload_n 0, 1) := by decide +kernel
theorem dX7_isTimeAsked_5 : decode cX7_isTimeAsked 5 = .ok (.sipush 999, 3) := by decide +kernel
theorem dX7_isTimeAsked_8 : decode cX7_isTimeAsked 8 = .ok (.if_icmp .gt 7, 3) := by decide +kernel
theorem dX7_isTimeAsked_11 : decode cX7_isTimeAsked 11 = .ok (.iconst 1, 1) := by decide +kernel
theorem dX7_isTimeAsked_12 : decode cX7_isTimeAsked 12 = .ok (.goto 4, 3) := by decide +kernel
theorem dX7_isTimeAsked_15 : decode cX7_isTimeAsked 15 = .ok (.iconst 0, 1) := by decide +kernel
theorem dX7_isTimeAsked_16 : decode cX7_isTimeAsked 16 = .ok (.ireturn, 1) := by decide +kernel
theorem dX7_isSheet_0 : decode cX7_isSheet 0 = .ok (.iload_n 0, 1) := by decide +kernel
theorem dX7_isSheet_1 : decode cX7_isSheet 1 = .ok (.ifCond .lt 12, 3) := by decide +kernel
theorem dX7_isSheet_4 : decode cX7_isSheet 4 = .ok (.iload_n 0, 1) := by decide +kernel
theorem dX7_isSheet_5 : decode cX7_isSheet 5 = .ok (.iconst 4, 1) := by decide +kernel
theorem dX7_isSheet_6 : decode cX7_isSheet 6 = .ok (.if_icmp .ge 7, 3) := by decide +kernel
theorem dX7_isSheet_9 : decode cX7_isSheet 9 = .ok (.iconst 1, 1) := by decide +kernel
theorem dX7_isSheet_10 : decode cX7_isSheet 10 = .ok (.goto 4, 3) := by decide +kernel
theorem dX7_isSheet_13 : decode cX7_isSheet 13 = .ok (.iconst 0, 1) := by decide +kernel
theorem dX7_isSheet_14 : decode cX7_isSheet 14 = .ok (.ireturn, 1) := by decide +kernel
theorem dX7_commonDivisor_0 : decode cX7_commonDivisor 0 = .ok (.iload_n 0, 1) := by decide +kernel
theorem dX7_commonDivisor_1 : decode cX7_commonDivisor 1 = .ok (.istore_n 2, 1) := by decide +kernel
theorem dX7_commonDivisor_2 : decode cX7_commonDivisor 2 = .ok (.iload_n 1, 1) := by decide +kernel
theorem dX7_commonDivisor_3 : decode cX7_commonDivisor 3 = .ok (.istore_n 3, 1) := by decide +kernel
theorem dX7_commonDivisor_4 : decode cX7_commonDivisor 4 = .ok (.iconst 0, 1) := by decide +kernel
theorem dX7_commonDivisor_5 : decode cX7_commonDivisor 5 = .ok (.istore 4, 2) := by decide +kernel
theorem dX7_commonDivisor_7 : decode cX7_commonDivisor 7 = .ok (.iload 4, 2) := by decide +kernel
theorem dX7_commonDivisor_9 : decode cX7_commonDivisor 9 = .ok (.bipush 64, 2) := by decide +kernel
theorem dX7_commonDivisor_11 : decode cX7_commonDivisor 11 = .ok (.if_icmp .ge 23, 3) := by decide +kernel
theorem dX7_commonDivisor_14 : decode cX7_commonDivisor 14 = .ok (.iload_n 3, 1) := by decide +kernel
theorem dX7_commonDivisor_15 : decode cX7_commonDivisor 15 = .ok (.ifCond .eq 19, 3) := by decide +kernel
theorem dX7_commonDivisor_18 : decode cX7_commonDivisor 18 = .ok (.iload_n 2, 1) := by decide +kernel
theorem dX7_commonDivisor_19 : decode cX7_commonDivisor 19 = .ok (.iload_n 3, 1) := by decide +kernel
theorem dX7_commonDivisor_20 : decode cX7_commonDivisor 20 = .ok (.irem, 1) := by decide +kernel
theorem dX7_commonDivisor_21 : decode cX7_commonDivisor 21 = .ok (.istore 5, 2) := by decide +kernel
theorem dX7_commonDivisor_23 : decode cX7_commonDivisor 23 = .ok (.iload_n 3, 1) := by decide +kernel
theorem dX7_commonDivisor_24 : decode cX7_commonDivisor 24 = .ok (.istore_n 2, 1) := by decide +kernel
theorem dX7_commonDivisor_25 : decode cX7_commonDivisor 25 = .ok (.iload 5, 2) := by decide +kernel
theorem dX7_commonDivisor_27 : decode cX7_commonDivisor 27 = .ok (.istore_n 3, 1) := by decide +kernel
theorem dX7_commonDivisor_28 : decode cX7_commonDivisor 28 = .ok (.iinc 4 1, 3) := by decide +kernel
theorem dX7_commonDivisor_31 : decode cX7_commonDivisor 31 = .ok (.goto (-24), 3) := by decide +kernel
theorem dX7_commonDivisor_34 : decode cX7_commonDivisor 34 = .ok (.iload_n 2, 1) := by decide +kernel
theorem dX7_commonDivisor_35 : decode cX7_commonDivisor 35 = .ok (.ireturn, 1) := by decide +kernel
end
section
theorem dX8_init_0 : decode cX8_init 0 = .ok (.aload_n 0, 1) := by decide +kernel
theorem dX8_init_1 : decode cX8_init 1 = .ok (.invokespecial 3, 3) := by decide +kernel
theorem dX8_init_4 : decode cX8_init 4 = .ok (.aload_n 0, 1) := by decide +kernel
theorem dX8_init_5 : decode cX8_init 5 = .ok (.sipush 379, 3) := by decide +kernel
theorem dX8_init_8 : decode cX8_init 8 = .ok (.newarray .int, 2) := by decide +kernel
theorem dX8_init_10 : decode cX8_init 10 = .ok (.putfield 9, 3) := by decide +kernel
theorem dX8_init_13 : decode cX8_init 13 = .ok (.aload_n 0, 1) := by decide +kernel
theorem dX8_init_14 : decode cX8_init 14 = .ok (.sipush 379, 3) := by decide +kernel
theorem dX8_init_17 : decode cX8_init 17 = .ok (.newarray .int, 2) := by decide +kernel
theorem dX8_init_19 : decode cX8_init 19 = .ok (.putfield 13, 3) := by decide +kernel
theorem dX8_init_22 : decode cX8_init 22 = .ok (.aload_n 0, 1) := by decide +kernel
theorem dX8_init_23 : decode cX8_init 23 = .ok (.sipush 379, 3) := by decide +kernel
theorem dX8_init_26 : decode cX8_init 26 = .ok (.newarray .int, 2) := by decide +kernel
theorem dX8_init_28 : decode cX8_init 28 = .ok (.putfield 16, 3) := by decide +kernel
theorem dX8_init_31 : decode cX8_init 31 = .ok (.aload_n 0, 1) := by decide +kernel
theorem dX8_init_32 : decode cX8_init 32 = .ok (.bipush 7, 2) := by decide +kernel
theorem dX8_init_34 : decode cX8_init 34 = .ok (.newarray .int, 2) := by decide +kernel
theorem dX8_init_36 : decode cX8_init 36 = .ok (.putfield 19, 3) := by decide +kernel
theorem dX8_init_39 : decode cX8_init 39 = .ok (.aload_n 0, 1) := by decide +kernel
theorem dX8_init_40 : decode cX8_init 40 = .ok (.iconst 4, 1) := by decide +kernel
theorem dX8_init_41 : decode cX8_init 41 = .ok (.newarray .int, 2) := by decide +kernel
theorem dX8_init_43 : decode cX8_init 43 = .ok (.putfield 22, 3) := by decide +kernel
theorem dX8_init_46 : decode cX8_init 46 = .ok (.aload_n 0, 1) := by decide +kernel
theorem dX8_init_47 : decode cX8_init 47 = .ok (.iconst 4, 1) := by decide +kernel
theorem dX8_init_48 : decode cX8_init 48 = .ok (.newarray .int, 2) := by decide +kernel
theorem dX8_init_50 : decode cX8_init 50 = .ok (.putfield 25, 3) := by decide +kernel
theorem dX8_init_53 : decode cX8_init 53 = .ok (.aload_n 0, 1) := by decide +kernel
theorem dX8_init_54 : decode cX8_init 54 = .ok (.bipush 96, 2) := by decide +kernel
theorem dX8_init_56 : decode cX8_init 56 = .ok (.newarray .int, 2) := by decide +kernel
theorem dX8_init_58 : decode cX8_init 58 = .ok (.putfield 28, 3) := by decide +kernel
theorem dX8_init_61 : decode cX8_init 61 = .ok (.aload_n 0, 1) := by decide +kernel
theorem dX8_init_62 : decode cX8_init 62 = .ok (.bipush 60, 2) := by decide +kernel
theorem dX8_init_64 : decode cX8_init 64 = .ok (.newarray .int, 2) := by decide +kernel
theorem dX8_init_66 : decode cX8_init 66 = .ok (.putfield 31, 3) := by decide +kernel
theorem dX8_init_69 : decode cX8_init 69 = .ok (.aload_n 0, 1) := by decide +kernel
theorem dX8_init_70 : decode cX8_init 70 = .ok (.bipush 60, 2) := by decide +kernel
theorem dX8_init_72 : decode cX8_init 72 = .ok (.newarray .int, 2) := by decide +kernel
theorem dX8_init_74 : decode cX8_init 74 = .ok (.putfield 34, 3) := by decide +kernel
theorem dX8_init_77 : decode cX8_init 77 = .ok (.aload_n 0, 1) := by decide +kernel
theorem dX8_init_78 : decode cX8_init 78 = .ok (.iconst 3, 1) := by decide +kernel
theorem dX8_init_79 : decode cX8_init 79 = .ok (.newarray .int, 2) := by decide +kernel
theorem dX8_init_81 : decode cX8_init 81 = .ok (.putfield 37, 3) := by decide +kernel
theorem dX8_init_84 : decode cX8_init 84 = .ok (.aload_n 0, 1) := by decide +kernel
theorem dX8_init_85 : decode cX8_init 85 = .ok (.bipush 60, 2) := by decide +kernel
theorem dX8_init_87 : decode cX8_init 87 = .ok (.newarray .int, 2) := by decide +kernel
theorem dX8_init_89 : decode cX8_init 89 = .ok (.putfield 40, 3) := by decide +kernel
theorem dX8_init_92 : decode cX8_init 92 = .ok (.aload_n 0, 1) := by decide +kernel
theorem dX8_init_93 : decode cX8_init 93 = .ok (.bipush 6, 2) := by decide +kernel
theorem dX8_init_95 : decode cX8_init 95 = .ok (.newarray .int, 2) := by decide +kernel
theorem dX8_init_97 : decode cX8_init 97 = .ok (.putfield 43, 3) := by decide +kernel
theorem dX8_init_100 : decode cX8_init 100 = .ok (.aload_n 0, 1) := by decide +kernel
theorem dX8_init_101 : decode cX8_init 101 = .ok (.bipush 6, 2) := by decide +kernel
theorem dX8_init_103 : decode cX8_init 103 = .ok (.newarray .int, 2) := by decide +kernel
theorem dX8_init_105 : decode cX8_init 105 = .ok (.putfield 46, 3) := by decide +kernel
theorem dX8_init_108 : decode cX8_init 108 = .ok (.aload_n 0, 1) := by decide +kernel
theorem dX8_init_109 : decode cX8_init 109 = .ok (.bipush 30, 2) := by decide +kernel
theorem dX8_init_111 : decode cX8_init 111 = .ok (.newarray .int, 2) := by decide +kernel
theorem dX8_init_113 : decode cX8_init 113 = .ok (.putfield 49, 3) := by decide +kernel
theorem dX8_init_116 : decode cX8_init 116 = .ok (.aload_n 0, 1) := by decide +kernel
theorem dX8_init_117 : decode cX8_init 117 = .ok (.getfield 9, 3) := by decide +kernel
theorem dX8_init_120 : decode cX8_init 120 = .ok (.iconst 4, 1) := by decide +kernel
theorem dX8_init_121 : decode cX8_init 121 = .ok (.iconst (-1), 1) := by decide +kernel
theorem dX8_init_122 : decode cX8_init 122 = .ok (.iastore, 1) := by decide +kernel
theorem dX8_init_123 : decode cX8_init 123 = .ok (.aload_n 0, 1) := by decide +kernel
theorem dX8_init_124 : decode cX8_init 124 = .ok (.getfield 9, 3) := by decide +kernel
theorem dX8_init_127 : decode cX8_init 127 = .ok (.bipush 7, 2) := by decide +kernel
theorem dX8_init_129 : decode cX8_init 129 = .ok (.iconst 1, 1) := by decide +kernel
theorem dX8_init_130 : decode cX8_init 130 = .ok (.iastore, 1) := by decide +kernel
theorem dX8_init_131 : decode cX8_init 131 = .ok (.return_, 1) := by decide +kernel
theorem dX8_error_0 : decode cX8_error 0 = .ok (.aload_n 0, 1) := by decide +kernel
theorem dX8_error_1 : decode cX8_error 1 = .ok (.getfield 19, 3) := by decide +kernel
theorem dX8_error_4 : decode cX8_error 4 = .ok (.ldc 52, 2) := by decide +kernel
theorem dX8_error_6 : decode cX8_error 6 = .ok (.iload_n 1, 1) := by decide +kernel
theorem dX8_error_7 : decode cX8_error 7 = .ok (.isub, 1) := by decide +kernel
theorem dX8_error_8 : decode cX8_error 8 = .ok (.dup2, 1) := by decide +kernel
theorem dX8_error_9 : decode cX8_error 9 = .ok (.iaload, 1) := by decide +kernel
theorem dX8_error_10 : decode cX8_error 10 = .ok (.iconst 1, 1) := by decide +kernel
theorem dX8_error_11 : decode cX8_error 11 = .ok (.iadd, 1) := by decide +kernel
theorem dX8_error_12 : decode cX8_error 12 = .ok (.iastore, 1) := by decide +kernel
theorem dX8_error_13 : decode cX8_error 13 = .ok (.iload_n 1, 1) := by decide +kernel
theorem dX8_error_14 : decode cX8_error 14 = .ok (.ireturn, 1) := by decide +kernel
theorem dX8_in_0 : decode cX8_in 0 = .ok (.iload_n 0, 1) := by decide +kernel
theorem dX8_in_1 : decode cX8_in 1 = .ok (.iload_n 1, 1) := by decide +kernel
theorem dX8_in_2 : decode cX8_in 2 = .ok (.if_icmp .lt 12, 3) := by decide +kernel
theorem dX8_in_5 : decode cX8_in 5 = .ok (.iload_n 0, 1) := by decide +kernel
theorem dX8_in_6 : decode cX8_in 6 = .ok (.iload_n 2, 1) := by decide +kernel
theorem dX8_in_7 : decode cX8_in 7 = .ok (.if_icmp .gt 7, 3) := by decide +kernel
theorem dX8_in_10 : decode cX8_in 10 = .ok (.iconst 1, 1) := by decide +kernel
theorem dX8_in_11 : decode cX8_in 11 = .ok (.goto 4, 3) := by decide +kernel
theorem dX8_in_14 : decode cX8_in 14 = .ok (.iconst 0, 1) := by decide +kernel
theorem dX8_in_15 : decode cX8_in 15 = .ok (.ireturn, 1) := by decide +kernel
theorem dX8_held_0 : decode cX8_held 0 = .ok (.iload_n 0, 1) := by decide +kernel
theorem dX8_held_1 : decode cX8_held 1 = .ok (.iload_n 1, 1) := by decide +kernel
theorem dX8_held_2 : decode cX8_held 2 = .ok (.if_icmp .ge 7, 3) := by decide +kernel
theorem dX8_held_5 : decode cX8_held 5 = .ok (.iload_n 1, 1) := by decide +kernel
theorem dX8_held_6 : decode cX8_held 6 = .ok (.goto 13, 3) := by decide +kernel
theorem dX8_held_9 : decode cX8_held 9 = .ok (.iload_n 0, 1) := by decide +kernel
theorem dX8_held_10 : decode cX8_held 10 = .ok (.iload_n 2, 1) := by decide +kernel
theorem dX8_held_11 : decode cX8_held 11 = .ok (.if_icmp .le 7, 3) := by decide +kernel
theorem dX8_held_14 : decode cX8_held 14 = .ok (.iload_n 2, 1) := by decide +kernel
theorem dX8_held_15 : decode cX8_held 15 = .ok (.goto 4, 3) := by decide +kernel
theorem dX8_held_18 : decode cX8_held 18 = .ok (.iload_n 0, 1) := by decide +kernel
theorem dX8_held_19 : decode cX8_held 19 = .ok (.ireturn, 1) := by decide +kernel
theorem dX8_copyAll_0 : decode cX8_copyAll 0 = .ok (.iconst 0, 1) := by decide +kernel
theorem dX8_copyAll_1 : decode cX8_copyAll 1 = .ok (.istore_n 2, 1) := by decide +kernel
theorem dX8_copyAll_2 : decode cX8_copyAll 2 = .ok (.iload_n 2, 1) := by decide +kernel
theorem dX8_copyAll_3 : decode cX8_copyAll 3 = .ok (.sipush 379, 3) := by decide +kernel
theorem dX8_copyAll_6 : decode cX8_copyAll 6 = .ok (.if_icmp .ge 15, 3) := by decide +kernel
theorem dX8_copyAll_9 : decode cX8_copyAll 9 = .ok (.aload_n 1, 1) := by decide +kernel
theorem dX8_copyAll_10 : decode cX8_copyAll 10 = .ok (.iload_n 2, 1) := by decide +kernel
theorem dX8_copyAll_11 : decode cX8_copyAll 11 = .ok (.aload_n 0, 1) := by decide +kernel
theorem dX8_copyAll_12 : decode cX8_copyAll 12 = .ok (.iload_n 2, 1) := by decide +kernel
theorem dX8_copyAll_13 : decode cX8_copyAll 13 = .ok (.iaload, 1) := by decide +kernel
theorem dX8_copyAll_14 : decode cX8_copyAll 14 = .ok (.iastore, 1) := by decide +kernel
theorem dX8_copyAll_15 : decode cX8_copyAll 15 = .ok (.iinc 2 1, 3) := by decide +kernel
theorem dX8_copyAll_18 : decode cX8_copyAll 18 = .ok (.goto (-16), 3) := by decide +kernel
theorem dX8_copyAll_21 : decode cX8_copyAll 21 = .ok (.return_, 1) := by decide +kernel
theorem dX8_thinks_0 : decode cX8_thinks 0 = .ok (.aload_n 0, 1) := by decide +kernel
theorem dX8_thinks_1 : decode cX8_thinks 1 = .ok (.getfield 9, 3) := by decide +kernel
theorem dX8_thinks_4 : decode cX8_thinks 4 = .ok (.aload_n 0, 1) := by decide +kernel
theorem dX8_thinks_5 : decode cX8_thinks 5 = .ok (.getfield 16, 3) := by decide +kernel
theorem dX8_thinks_8 : decode cX8_thinks 8 = .ok (.invokestatic 53, 3) := by decide +kernel
theorem dX8_thinks_11 : decode cX8_thinks 11 = .ok (.return_, 1) := by decide +kernel
theorem dX8_putsBack_0 : decode cX8_putsBack 0 = .ok (.aload_n 0, 1) := by decide +kernel
theorem dX8_putsBack_1 : decode cX8_putsBack 1 = .ok (.getfield 16, 3) := by decide +kernel
theorem dX8_putsBack_4 : decode cX8_putsBack 4 = .ok (.aload_n 0, 1) := by decide +kernel
theorem dX8_putsBack_5 : decode cX8_putsBack 5 = .ok (.getfield 9, 3) := by decide +kernel
theorem dX8_putsBack_8 : decode cX8_putsBack 8 = .ok (.invokestatic 53, 3) := by decide +kernel
theorem dX8_putsBack_11 : decode cX8_putsBack 11 = .ok (.return_, 1) := by decide +kernel
theorem dX8_bits_0 : decode cX8_bits 0 = .ok (.iconst 0, 1) := by decide +kernel
theorem dX8_bits_1 : decode cX8_bits 1 = .ok (.istore_n 1, 1) := by decide +kernel
theorem dX8_bits_2 : decode cX8_bits 2 = .ok (.iload_n 0, 1) := by decide +kernel
theorem dX8_bits_3 : decode cX8_bits 3 = .ok (.istore_n 2, 1) := by decide +kernel
theorem dX8_bits_4 : decode cX8_bits 4 = .ok (.iload_n 2, 1) := by decide +kernel
theorem dX8_bits_5 : decode cX8_bits 5 = .ok (.ifCond .eq 15, 3) := by decide +kernel
theorem dX8_bits_8 : decode cX8_bits 8 = .ok (.iinc 1 1, 3) := by decide +kernel
theorem dX8_bits_11 : decode cX8_bits 11 = .ok (.iload_n 2, 1) := by decide +kernel
theorem dX8_bits_12 : decode cX8_bits 12 = .ok (.iload_n 2, 1) := by decide +kernel
theorem dX8_bits_13 : decode cX8_bits 13 = .ok (.iconst 1, 1) := by decide +kernel
theorem dX8_bits_14 : decode cX8_bits 14 = .ok (.isub, 1) := by decide +kernel
theorem dX8_bits_15 : decode cX8_bits 15 = .ok (.iand, 1) := by decide +kernel
theorem dX8_bits_16 : decode cX8_bits 16 = .ok (.istore_n 2, 1) := by decide +kernel
theorem dX8_bits_17 : decode cX8_bits 17 = .ok (.goto (-13), 3) := by decide +kernel
theorem dX8_bits_20 : decode cX8_bits 20 = .ok (.iload_n 1, 1) := by decide +kernel
theorem dX8_bits_21 : decode cX8_bits 21 = .ok (.ireturn, 1) := by decide +kernel
theorem dX8_isThing_0 : decode cX8_isThing 0 = .ok (.iload_n 1, 1) := by decide +kernel
theorem dX8_isThing_1 : decode cX8_isThing 1 = .ok (.iconst 0, 1) := by decide +kernel
theorem dX8_isThing_2 : decode cX8_isThing 2 = .ok (.aload_n 0, 1) := by decide +kernel
theorem dX8_isThing_3 : decode cX8_isThing 3 = .ok (.getfield 9, 3) := by decide +kernel
theorem dX8_isThing_6 : decode cX8_isThing 6 = .ok (.iconst 2, 1) := by decide +kernel
theorem dX8_isThing_7 : decode cX8_isThing 7 = .ok (.iaload, 1) := by decide +kernel
theorem dX8_isThing_8 : decode cX8_isThing 8 = .ok (.iconst 1, 1) := by decide +kernel
theorem dX8_isThing_9 : decode cX8_isThing 9 = .ok (.isub, 1) := by decide +kernel
theorem dX8_isThing_10 : decode cX8_isThing 10 = .ok (.invokestatic 57, 3) := by decide +kernel
theorem dX8_isThing_13 : decode cX8_isThing 13 = .ok (.ireturn, 1) := by decide +kernel
theorem dX8_becomes_0 : decode cX8_becomes 0 = .ok (.aload_n 0, 1) := by decide +kernel
theorem dX8_becomes_1 : decode cX8_becomes 1 = .ok (.getfield 9, 3) := by decide +kernel
theorem dX8_becomes_4 : decode cX8_becomes 4 = .ok (.iload_n 1, 1) := by decide +kernel
theorem dX8_becomes_5 : decode cX8_becomes 5 = .ok (.iaload, 1) := by decide +kernel
theorem dX8_becomes_6 : decode cX8_becomes 6 = .ok (.istore_n 3, 1) := by decide +kernel
theorem dX8_becomes_7 : decode cX8_becomes 7 = .ok (.aload_n 0, 1) := by decide +kernel
theorem dX8_becomes_8 : decode cX8_becomes 8 = .ok (.getfield 9, 3) := by decide +kernel
theorem dX8_becomes_11 : decode cX8_becomes 11 = .ok (.iload_n 1, 1) := by decide +kernel
theorem dX8_becomes_12 : decode cX8_becomes 12 = .ok (.iload_n 2, 1) := by decide +kernel
theorem dX8_becomes_13 : decode cX8_becomes 13 = .ok (.iastore, 1) := by decide +kernel
theorem dX8_becomes_14 : decode cX8_becomes 14 = .ok (.iload_n 3, 1) := by decide +kernel
theorem dX8_becomes_15 : decode cX8_becomes 15 = .ok (.ireturn, 1) := by decide +kernel
theorem dX8_of_0 : decode cX8_of 0 = .ok (.aload_n 0, 1) := by decide +kernel
theorem dX8_of_1 : decode cX8_of 1 = .ok (.getfield 9, 3) := by decide +kernel
theorem dX8_of_4 : decode cX8_of 4 = .ok (.bipush 17, 2) := by decide +kernel
theorem dX8_of_6 : decode cX8_of 6 = .ok (.iconst 4, 1) := by decide +kernel
theorem dX8_of_7 : decode cX8_of 7 = .ok (.iload_n 1, 1) := by decide +kernel
theorem dX8_of_8 : decode cX8_of 8 = .ok (.imul, 1) := by decide +kernel
theorem dX8_of_9 : decode cX8_of 9 = .ok (.iadd, 1) := by decide +kernel
theorem dX8_of_10 : decode cX8_of 10 = .ok (.iload_n 2, 1) := by decide +kernel
theorem dX8_of_11 : decode cX8_of 11 = .ok (.iadd, 1) := by decide +kernel
theorem dX8_of_12 : decode cX8_of 12 = .ok (.iaload, 1) := by decide +kernel
theorem dX8_of_13 : decode cX8_of 13 = .ok (.ireturn, 1) := by decide +kernel
theorem dX8_sinksOf_0 : decode cX8_sinksOf 0 = .ok (.aload_n 0, 1) := by decide +kernel
theorem dX8_sinksOf_1 : decode cX8_sinksOf 1 = .ok (.iload_n 1, 1) := by decide +kernel
theorem dX8_sinksOf_2 : decode cX8_sinksOf 2 = .ok (.iconst 2, 1) := by decide +kernel
theorem dX8_sinksOf_3 : decode cX8_sinksOf 3 = .ok (.invokevirtual 61, 3) := by decide +kernel
theorem dX8_sinksOf_6 : decode cX8_sinksOf 6 = .ok (.istore_n 2, 1) := by decide +kernel
theorem dX8_sinksOf_7 : decode cX8_sinksOf 7 = .ok (.aload_n 0, 1) := by decide +kernel
theorem dX8_sinksOf_8 : decode cX8_sinksOf 8 = .ok (.iload_n 1, 1) := by decide +kernel
theorem dX8_sinksOf_9 : decode cX8_sinksOf 9 = .ok (.iconst 0, 1) := by decide +kernel
theorem dX8_sinksOf_10 : decode cX8_sinksOf 10 = .ok (.invokevirtual 61, 3) := by decide +kernel
theorem dX8_sinksOf_13 : decode cX8_sinksOf 13 = .ok (.tableswitch 97 1 5 #[35, 44, 48, 60, 84], 35) := by decide +kernel
theorem dX8_sinksOf_48 : decode cX8_sinksOf 48 = .ok (.iload_n 2, 1) := by decide +kernel
theorem dX8_sinksOf_49 : decode cX8_sinksOf 49 = .ok (.aload_n 0, 1) := by decide +kernel
theorem dX8_sinksOf_50 : decode cX8_sinksOf 50 = .ok (.iload_n 1, 1) := by decide +kernel
theorem dX8_sinksOf_51 : decode cX8_sinksOf 51 = .ok (.iconst 1, 1) := by decide +kernel
theorem dX8_sinksOf_52 : decode cX8_sinksOf 52 = .ok (.invokevirtual 61, 3) := by decide +kernel
theorem dX8_sinksOf_55 : decode cX8_sinksOf 55 = .ok (.iadd, 1) := by decide +kernel
theorem dX8_sinksOf_56 : decode cX8_sinksOf 56 = .ok (.ireturn, 1) := by decide +kernel
theorem dX8_sinksOf_57 : decode cX8_sinksOf 57 = .ok (.iload_n 2, 1) := by decide +kernel
theorem dX8_sinksOf_58 : decode cX8_sinksOf 58 = .ok (.iconst 2, 1) := by decide +kernel
theorem dX8_sinksOf_59 : decode cX8_sinksOf 59 = .ok (.idiv, 1) := by decide +kernel
theorem dX8_sinksOf_60 : decode cX8_sinksOf 60 = .ok (.ireturn, 1) := by decide +kernel
theorem dX8_sinksOf_61 : decode cX8_sinksOf 61 = .ok (.iload_n 2, 1) := by decide +kernel
theorem dX8_sinksOf_62 : decode cX8_sinksOf 62 = .ok (.bipush 9, 2) := by decide +kernel
theorem dX8_sinksOf_64 : decode cX8_sinksOf 64 = .ok (.iadd, 1) := by decide +kernel
theorem dX8_sinksOf_65 : decode cX8_sinksOf 65 = .ok (.aload_n 0, 1) := by decide +kernel
theorem dX8_sinksOf_66 : decode cX8_sinksOf 66 = .ok (.iload_n 1, 1) := by decide +kernel
theorem dX8_sinksOf_67 : decode cX8_sinksOf 67 = .ok (.iconst 3, 1) := by decide +kernel
theorem dX8_sinksOf_68 : decode cX8_sinksOf 68 = .ok (.invokevirtual 61, 3) := by decide +kernel
theorem dX8_sinksOf_71 : decode cX8_sinksOf 71 = .ok (.isub, 1) := by decide +kernel
theorem dX8_sinksOf_72 : decode cX8_sinksOf 72 = .ok (.ireturn, 1) := by decide +kernel
theorem dX8_sinksOf_73 : decode cX8_sinksOf 73 = .ok (.aload_n 0, 1) := by decide +kernel
theorem dX8_sinksOf_74 : decode cX8_sinksOf 74 = .ok (.getfield 9, 3) := by decide +kernel
theorem dX8_sinksOf_77 : decode cX8_sinksOf 77 = .ok (.iconst 0, 1) := by decide +kernel
theorem dX8_sinksOf_78 : decode cX8_sinksOf 78 = .ok (.iaload, 1) := by decide +kernel
theorem dX8_sinksOf_79 : decode cX8_sinksOf 79 = .ok (.iconst 2, 1) := by decide +kernel
theorem dX8_sinksOf_80 : decode cX8_sinksOf 80 = .ok (.irem, 1) := by decide +kernel
theorem dX8_sinksOf_81 : decode cX8_sinksOf 81 = .ok (.ifCond .ne 14, 3) := by decide +kernel
theorem dX8_sinksOf_84 : decode cX8_sinksOf 84 = .ok (.iload_n 2, 1) := by decide +kernel
theorem dX8_sinksOf_85 : decode cX8_sinksOf 85 = .ok (.aload_n 0, 1) := by decide +kernel
theorem dX8_sinksOf_86 : decode cX8_sinksOf 86 = .ok (.iload_n 1, 1) := by decide +kernel
theorem dX8_sinksOf_87 : decode cX8_sinksOf 87 = .ok (.iconst 1, 1) := by decide +kernel
theorem dX8_sinksOf_88 : decode cX8_sinksOf 88 = .ok (.invokevirtual 61, 3) := by decide +kernel
theorem dX8_sinksOf_91 : decode cX8_sinksOf 91 = .ok (.iadd, 1) := by decide +kernel
theorem dX8_sinksOf_92 : decode cX8_sinksOf 92 = .ok (.goto 4, 3) := by decide +kernel
theorem dX8_sinksOf_95 : decode cX8_sinksOf 95 = .ok (.iconst 0, 1) := by decide +kernel
theorem dX8_sinksOf_96 : decode cX8_sinksOf 96 = .ok (.ireturn, 1) := by decide +kernel
theorem dX8_sinksOf_97 : decode cX8_sinksOf 97 = .ok (.iload_n 2, 1) := by decide +kernel
theorem dX8_sinksOf_98 : decode cX8_sinksOf 98 = .ok (.iconst 2, 1) := by decide +kernel
theorem dX8_sinksOf_99 : decode cX8_sinksOf 99 = .ok (.idiv, 1) := by decide +kernel
theorem dX8_sinksOf_100 : decode cX8_sinksOf 100 = .ok (.aload_n 0, 1) := by decide +kernel
theorem dX8_sinksOf_101 : decode cX8_sinksOf 101 = .ok (.getfield 9, 3) := by decide +kernel
theorem dX8_sinksOf_104 : decode cX8_sinksOf 104 = .ok (.iconst 0, 1) := by decide +kernel
theorem dX8_sinksOf_105 : decode cX8_sinksOf 105 = .ok (.iaload, 1) := by decide +kernel
theorem dX8_sinksOf_106 : decode cX8_sinksOf 106 = .ok (.iconst 3, 1) := by decide +kernel
theorem dX8_sinksOf_107 : decode cX8_sinksOf 107 = .ok (.irem, 1) := by decide +kernel
theorem dX8_sinksOf_108 : decode cX8_sinksOf 108 = .ok (.iadd, 1) := by decide +kernel
theorem dX8_sinksOf_109 : decode cX8_sinksOf 109 = .ok (.ireturn, 1) := by decide +kernel
theorem dX8_sinksOf_110 : decode cX8_sinksOf 110 = .ok (.iload_n 2, 1) := by decide +kernel
theorem dX8_sinksOf_111 : decode cX8_sinksOf 111 = .ok (.ireturn, 1) := by decide +kernel
theorem dX8_feelsOf_0 : decode cX8_feelsOf 0 = .ok (.aload_n 0, 1) := by decide +kernel
theorem dX8_feelsOf_1 : decode cX8_feelsOf 1 = .ok (.iload_n 1, 1) := by decide +kernel
theorem dX8_feelsOf_2 : decode cX8_feelsOf 2 = .ok (.iconst 3, 1) := by decide +kernel
theorem dX8_feelsOf_3 : decode cX8_feelsOf 3 = .ok (.invokevirtual 61, 3) := by decide +kernel
theorem dX8_feelsOf_6 : decode cX8_feelsOf 6 = .ok (.istore_n 2, 1) := by decide +kernel
theorem dX8_feelsOf_7 : decode cX8_feelsOf 7 = .ok (.aload_n 0, 1) := by decide +kernel
theorem dX8_feelsOf_8 : decode cX8_feelsOf 8 = .ok (.iload_n 1, 1) := by decide +kernel
theorem dX8_feelsOf_9 : decode cX8_feelsOf 9 = .ok (.iconst 1, 1) := by decide +kernel
theorem dX8_feelsOf_10 : decode cX8_feelsOf 10 = .ok (.invokevirtual 61, 3) := by decide +kernel
theorem dX8_feelsOf_13 : decode cX8_feelsOf 13 = .ok (.istore_n 3, 1) := by decide +kernel
theorem dX8_feelsOf_14 : decode cX8_feelsOf 14 = .ok (.aload_n 0, 1) := by decide +kernel
theorem dX8_feelsOf_15 : decode cX8_feelsOf 15 = .ok (.iload_n 1, 1) := by decide +kernel
theorem dX8_feelsOf_16 : decode cX8_feelsOf 16 = .ok (.iconst 0, 1) := by decide +kernel
theorem dX8_feelsOf_17 : decode cX8_feelsOf 17 = .ok (.invokevirtual 61, 3) := by decide +kernel
theorem dX8_feelsOf_20 : decode cX8_feelsOf 20 = .ok (.tableswitch 71 1 6 #[40, 44, 71, 48, 63, 69], 40) := by decide +kernel
theorem dX8_feelsOf_60 : decode cX8_feelsOf 60 = .ok (.iload_n 2, 1) := by decide +kernel
theorem dX8_feelsOf_61 : decode cX8_feelsOf 61 = .ok (.iconst 2, 1) := by decide +kernel
theorem dX8_feelsOf_62 : decode cX8_feelsOf 62 = .ok (.idiv, 1) := by decide +kernel
theorem dX8_feelsOf_63 : decode cX8_feelsOf 63 = .ok (.ireturn, 1) := by decide +kernel
theorem dX8_feelsOf_64 : decode cX8_feelsOf 64 = .ok (.iload_n 2, 1) := by decide +kernel
theorem dX8_feelsOf_65 : decode cX8_feelsOf 65 = .ok (.iload_n 3, 1) := by decide +kernel
theorem dX8_feelsOf_66 : decode cX8_feelsOf 66 = .ok (.iadd, 1) := by decide +kernel
theorem dX8_feelsOf_67 : decode cX8_feelsOf 67 = .ok (.ireturn, 1) := by decide +kernel
theorem dX8_feelsOf_68 : decode cX8_feelsOf 68 = .ok (.iload_n 2, 1) := by decide +kernel
theorem dX8_feelsOf_69 : decode cX8_feelsOf 69 = .ok (.iconst 4, 1) := by decide +kernel
theorem dX8_feelsOf_70 : decode cX8_feelsOf 70 = .ok (.if_icmp .ge 7, 3) := by decide +kernel
theorem dX8_feelsOf_73 : decode cX8_feelsOf 73 = .ok (.iconst 0, 1) := by decide +kernel
theorem dX8_feelsOf_74 : decode cX8_feelsOf 74 = .ok (.goto 8, 3) := by decide +kernel
theorem dX8_feelsOf_77 : decode cX8_feelsOf 77 = .ok (.iload_n 2, 1) := by decide +kernel
theorem dX8_feelsOf_78 : decode cX8_feelsOf 78 = .ok (.iconst 2, 1) := by decide +kernel
theorem dX8_feelsOf_79 : decode cX8_feelsOf 79 = .ok (.idiv, 1) := by decide +kernel
theorem dX8_feelsOf_80 : decode cX8_feelsOf 80 = .ok (.iconst 1, 1) := by decide +kernel
theorem dX8_feelsOf_81 : decode cX8_feelsOf 81 = .ok (.isub, 1) := by decide +kernel
theorem dX8_feelsOf_82 : decode cX8_feelsOf 82 = .ok (.ireturn, 1) := by decide +kernel
theorem dX8_feelsOf_83 : decode cX8_feelsOf 83 = .ok (.iconst 2, 1) := by decide +kernel
theorem dX8_feelsOf_84 : decode cX8_feelsOf 84 = .ok (.iload_n 2, 1) := by decide +kernel
theorem dX8_feelsOf_85 : decode cX8_feelsOf 85 = .ok (.iload_n 3, 1) := by decide +kernel
theorem dX8_feelsOf_86 : decode cX8_feelsOf 86 = .ok (.iadd, 1) := by decide +kernel
theorem dX8_feelsOf_87 : decode cX8_feelsOf 87 = .ok (.imul, 1) := by decide +kernel
theorem dX8_feelsOf_88 : decode cX8_feelsOf 88 = .ok (.ireturn, 1) := by decide +kernel
theorem dX8_feelsOf_89 : decode cX8_feelsOf 89 = .ok (.iload_n 3, 1) := by decide +kernel
theorem dX8_feelsOf_90 : decode cX8_feelsOf 90 = .ok (.ireturn, 1) := by decide +kernel
theorem dX8_feelsOf_91 : decode cX8_feelsOf 91 = .ok (.iload_n 2, 1) := by decide +kernel
theorem dX8_feelsOf_92 : decode cX8_feelsOf 92 = .ok (.ireturn, 1) := by decide +kernel
theorem dX8_whereIs_0 : decode cX8_whereIs 0 = .ok (.iconst 0, 1) := by decide +kernel
theorem dX8_whereIs_1 : decode cX8_whereIs 1 = .ok (.istore_n 2, 1) := by decide +kernel
theorem dX8_whereIs_2 : decode cX8_whereIs 2 = .ok (.iload_n 2, 1) := by decide +kernel
theorem dX8_whereIs_3 : decode cX8_whereIs 3 = .ok (.aload_n 0, 1) := by decide +kernel
theorem dX8_whereIs_4 : decode cX8_whereIs 4 = .ok (.getfield 9, 3) := by decide +kernel
theorem dX8_whereIs_7 : decode cX8_whereIs 7 = .ok (.iconst 3, 1) := by decide +kernel
theorem dX8_whereIs_8 : decode cX8_whereIs 8 = .ok (.iaload, 1) := by decide +kernel
theorem dX8_whereIs_9 : decode cX8_whereIs 9 = .ok (.if_icmp .ge 24, 3) := by decide +kernel
theorem dX8_whereIs_12 : decode cX8_whereIs 12 = .ok (.aload_n 0, 1) := by decide +kernel
theorem dX8_whereIs_13 : decode cX8_whereIs 13 = .ok (.getfield 9, 3) := by decide +kernel
theorem dX8_whereIs_16 : decode cX8_whereIs 16 = .ok (.bipush 8, 2) := by decide +kernel
theorem dX8_whereIs_18 : decode cX8_whereIs 18 = .ok (.iload_n 2, 1) := by decide +kernel
theorem dX8_whereIs_19 : decode cX8_whereIs 19 = .ok (.iadd, 1) := by decide +kernel
theorem dX8_whereIs_20 : decode cX8_whereIs 20 = .ok (.iaload, 1) := by decide +kernel
theorem dX8_whereIs_21 : decode cX8_whereIs 21 = .ok (.iload_n 1, 1) := by decide +kernel
theorem dX8_whereIs_22 : decode cX8_whereIs 22 = .ok (.if_icmp .ne 5, 3) := by decide +kernel
theorem dX8_whereIs_25 : decode cX8_whereIs 25 = .ok (.iload_n 2, 1) := by decide +kernel
theorem dX8_whereIs_26 : decode cX8_whereIs 26 = .ok (.ireturn, 1) := by decide +kernel
theorem dX8_whereIs_27 : decode cX8_whereIs 27 = .ok (.iinc 2 1, 3) := by decide +kernel
theorem dX8_whereIs_30 : decode cX8_whereIs 30 = .ok (.goto (-28), 3) := by decide +kernel
theorem dX8_whereIs_33 : decode cX8_whereIs 33 = .ok (.aload_n 0, 1) := by decide +kernel
theorem dX8_whereIs_34 : decode cX8_whereIs 34 = .ok (.getfield 9, 3) := by decide +kernel
theorem dX8_whereIs_37 : decode cX8_whereIs 37 = .ok (.iconst 4, 1) := by decide +kernel
theorem dX8_whereIs_38 : decode cX8_whereIs 38 = .ok (.iaload, 1) := by decide +kernel
theorem dX8_whereIs_39 : decode cX8_whereIs 39 = .ok (.iload_n 1, 1) := by decide +kernel
theorem dX8_whereIs_40 : decode cX8_whereIs 40 = .ok (.if_icmp .ne 7, 3) := by decide +kernel
theorem dX8_whereIs_43 : decode cX8_whereIs 43 = .ok (.iconst (-1), 1) := by decide +kernel
theorem dX8_whereIs_44 : decode cX8_whereIs 44 = .ok (.goto 5, 3) := by decide +kernel
theorem dX8_whereIs_47 : decode cX8_whereIs 47 = .ok (.bipush (-2), 2) := by decide +kernel
theorem dX8_whereIs_49 : decode cX8_whereIs 49 = .ok (.ireturn, 1) := by decide +kernel
theorem dX8_goesFrom_0 : decode cX8_goesFrom 0 = .ok (.aload_n 0, 1) := by decide +kernel
theorem dX8_goesFrom_1 : decode cX8_goesFrom 1 = .ok (.getfield 9, 3) := by decide +kernel
theorem dX8_goesFrom_4 : decode cX8_goesFrom 4 = .ok (.iconst 3, 1) := by decide +kernel
theorem dX8_goesFrom_5 : decode cX8_goesFrom 5 = .ok (.dup2, 1) := by decide +kernel
theorem dX8_goesFrom_6 : decode cX8_goesFrom 6 = .ok (.iaload, 1) := by decide +kernel
theorem dX8_goesFrom_7 : decode cX8_goesFrom 7 = .ok (.iconst 1, 1) := by decide +kernel
theorem dX8_goesFrom_8 : decode cX8_goesFrom 8 = .ok (.isub, 1) := by decide +kernel
theorem dX8_goesFrom_9 : decode cX8_goesFrom 9 = .ok (.iastore, 1) := by decide +kernel
theorem dX8_goesFrom_10 : decode cX8_goesFrom 10 = .ok (.iload_n 1, 1) := by decide +kernel
theorem dX8_goesFrom_11 : decode cX8_goesFrom 11 = .ok (.istore_n 2, 1) := by decide +kernel
theorem dX8_goesFrom_12 : decode cX8_goesFrom 12 = .ok (.iload_n 2, 1) := by decide +kernel
theorem dX8_goesFrom_13 : decode cX8_goesFrom 13 = .ok (.aload_n 0, 1) := by decide +kernel
theorem dX8_goesFrom_14 : decode cX8_goesFrom 14 = .ok (.getfield 9, 3) := by decide +kernel
theorem dX8_goesFrom_17 : decode cX8_goesFrom 17 = .ok (.iconst 3, 1) := by decide +kernel
theorem dX8_goesFrom_18 : decode cX8_goesFrom 18 = .ok (.iaload, 1) := by decide +kernel
theorem dX8_goesFrom_19 : decode cX8_goesFrom 19 = .ok (.if_icmp .ge 29, 3) := by decide +kernel
theorem dX8_goesFrom_22 : decode cX8_goesFrom 22 = .ok (.aload_n 0, 1) := by decide +kernel
theorem dX8_goesFrom_23 : decode cX8_goesFrom 23 = .ok (.getfield 9, 3) := by decide +kernel
theorem dX8_goesFrom_26 : decode cX8_goesFrom 26 = .ok (.bipush 8, 2) := by decide +kernel
theorem dX8_goesFrom_28 : decode cX8_goesFrom 28 = .ok (.iload_n 2, 1) := by decide +kernel
theorem dX8_goesFrom_29 : decode cX8_goesFrom 29 = .ok (.iadd, 1) := by decide +kernel
theorem dX8_goesFrom_30 : decode cX8_goesFrom 30 = .ok (.aload_n 0, 1) := by decide +kernel
theorem dX8_goesFrom_31 : decode cX8_goesFrom 31 = .ok (.getfield 9, 3) := by decide +kernel
theorem dX8_goesFrom_34 : decode cX8_goesFrom 34 = .ok (.bipush 8, 2) := by decide +kernel
theorem dX8_goesFrom_36 : decode cX8_goesFrom 36 = .ok (.iload_n 2, 1) := by decide +kernel
theorem dX8_goesFrom_37 : decode cX8_goesFrom 37 = .ok (.iadd, 1) := by decide +kernel
theorem dX8_goesFrom_38 : decode cX8_goesFrom 38 = .ok (.iconst 1, 1) := by decide +kernel
theorem dX8_goesFrom_39 : decode cX8_goesFrom 39 = .ok (.iadd, 1) := by decide +kernel
theorem dX8_goesFrom_40 : decode cX8_goesFrom 40 = .ok (.iaload, 1) := by decide +kernel
theorem dX8_goesFrom_41 : decode cX8_goesFrom 41 = .ok (.iastore, 1) := by decide +kernel
theorem dX8_goesFrom_42 : decode cX8_goesFrom 42 = .ok (.iinc 2 1, 3) := by decide +kernel
theorem dX8_goesFrom_45 : decode cX8_goesFrom 45 = .ok (.goto (-33), 3) := by decide +kernel
theorem dX8_goesFrom_48 : decode cX8_goesFrom 48 = .ok (.return_, 1) := by decide +kernel
theorem dX8_goesOnTop_0 : decode cX8_goesOnTop 0 = .ok (.aload_n 0, 1) := by decide +kernel
theorem dX8_goesOnTop_1 : decode cX8_goesOnTop 1 = .ok (.getfield 9, 3) := by decide +kernel
theorem dX8_goesOnTop_4 : decode cX8_goesOnTop 4 = .ok (.iconst 3, 1) := by decide +kernel
theorem dX8_goesOnTop_5 : decode cX8_goesOnTop 5 = .ok (.iaload, 1) := by decide +kernel
theorem dX8_goesOnTop_6 : decode cX8_goesOnTop 6 = .ok (.istore_n 2, 1) := by decide +kernel
theorem dX8_goesOnTop_7 : decode cX8_goesOnTop 7 = .ok (.iload_n 2, 1) := by decide +kernel
theorem dX8_goesOnTop_8 : decode cX8_goesOnTop 8 = .ok (.ifCond .le 29, 3) := by decide +kernel
theorem dX8_goesOnTop_11 : decode cX8_goesOnTop 11 = .ok (.aload_n 0, 1) := by decide +kernel
theorem dX8_goesOnTop_12 : decode cX8_goesOnTop 12 = .ok (.getfield 9, 3) := by decide +kernel
theorem dX8_goesOnTop_15 : decode cX8_goesOnTop 15 = .ok (.bipush 8, 2) := by decide +kernel
theorem dX8_goesOnTop_17 : decode cX8_goesOnTop 17 = .ok (.iload_n 2, 1) := by decide +kernel
theorem dX8_goesOnTop_18 : decode cX8_goesOnTop 18 = .ok (.iadd, 1) := by decide +kernel
theorem dX8_goesOnTop_19 : decode cX8_goesOnTop 19 = .ok (.aload_n 0, 1) := by decide +kernel
theorem dX8_goesOnTop_20 : decode cX8_goesOnTop 20 = .ok (.getfield 9, 3) := by decide +kernel
theorem dX8_goesOnTop_23 : decode cX8_goesOnTop 23 = .ok (.bipush 8, 2) := by decide +kernel
theorem dX8_goesOnTop_25 : decode cX8_goesOnTop 25 = .ok (.iload_n 2, 1) := by decide +kernel
theorem dX8_goesOnTop_26 : decode cX8_goesOnTop 26 = .ok (.iadd, 1) := by decide +kernel
theorem dX8_goesOnTop_27 : decode cX8_goesOnTop 27 = .ok (.iconst 1, 1) := by decide +kernel
theorem dX8_goesOnTop_28 : decode cX8_goesOnTop 28 = .ok (.isub, 1) := by decide +kernel
theorem dX8_goesOnTop_29 : decode cX8_goesOnTop 29 = .ok (.iaload, 1) := by decide +kernel
theorem dX8_goesOnTop_30 : decode cX8_goesOnTop 30 = .ok (.iastore, 1) := by decide +kernel
theorem dX8_goesOnTop_31 : decode cX8_goesOnTop 31 = .ok (.iinc 2 (-1), 3) := by decide +kernel
theorem dX8_goesOnTop_34 : decode cX8_goesOnTop 34 = .ok (.goto (-27), 3) := by decide +kernel
theorem dX8_goesOnTop_37 : decode cX8_goesOnTop 37 = .ok (.aload_n 0, 1) := by decide +kernel
theorem dX8_goesOnTop_38 : decode cX8_goesOnTop 38 = .ok (.getfield 9, 3) := by decide +kernel
theorem dX8_goesOnTop_41 : decode cX8_goesOnTop 41 = .ok (.bipush 8, 2) := by decide +kernel
theorem dX8_goesOnTop_43 : decode cX8_goesOnTop 43 = .ok (.iload_n 1, 1) := by decide +kernel
theorem dX8_goesOnTop_44 : decode cX8_goesOnTop 44 = .ok (.iastore, 1) := by decide +kernel
theorem dX8_goesOnTop_45 : decode cX8_goesOnTop 45 = .ok (.aload_n 0, 1) := by decide +kernel
theorem dX8_goesOnTop_46 : decode cX8_goesOnTop 46 = .ok (.getfield 9, 3) := by decide +kernel
theorem dX8_goesOnTop_49 : decode cX8_goesOnTop 49 = .ok (.iconst 3, 1) := by decide +kernel
theorem dX8_goesOnTop_50 : decode cX8_goesOnTop 50 = .ok (.dup2, 1) := by decide +kernel
theorem dX8_goesOnTop_51 : decode cX8_goesOnTop 51 = .ok (.iaload, 1) := by decide +kernel
theorem dX8_goesOnTop_52 : decode cX8_goesOnTop 52 = .ok (.iconst 1, 1) := by decide +kernel
theorem dX8_goesOnTop_53 : decode cX8_goesOnTop 53 = .ok (.iadd, 1) := by decide +kernel
theorem dX8_goesOnTop_54 : decode cX8_goesOnTop 54 = .ok (.iastore, 1) := by decide +kernel
theorem dX8_goesOnTop_55 : decode cX8_goesOnTop 55 = .ok (.return_, 1) := by decide +kernel
theorem dX8_aStep_0 : decode cX8_aStep 0 = .ok (.iconst 0, 1) := by decide +kernel
theorem dX8_aStep_1 : decode cX8_aStep 1 = .ok (.istore_n 1, 1) := by decide +kernel
theorem dX8_aStep_2 : decode cX8_aStep 2 = .ok (.iconst 0, 1) := by decide +kernel
theorem dX8_aStep_3 : decode cX8_aStep 3 = .ok (.istore_n 2, 1) := by decide +kernel
theorem dX8_aStep_4 : decode cX8_aStep 4 = .ok (.iload_n 2, 1) := by decide +kernel
theorem dX8_aStep_5 : decode cX8_aStep 5 = .ok (.aload_n 0, 1) := by decide +kernel
theorem dX8_aStep_6 : decode cX8_aStep 6 = .ok (.getfield 9, 3) := by decide +kernel
theorem dX8_aStep_9 : decode cX8_aStep 9 = .ok (.iconst 3, 1) := by decide +kernel
theorem dX8_aStep_10 : decode cX8_aStep 10 = .ok (.iaload, 1) := by decide +kernel
theorem dX8_aStep_11 : decode cX8_aStep 11 = .ok (.iconst 1, 1) := by decide +kernel
theorem dX8_aStep_12 : decode cX8_aStep 12 = .ok (.isub, 1) := by decide +kernel
theorem dX8_aStep_13 : decode cX8_aStep 13 = .ok (.if_icmp .ge 71, 3) := by decide +kernel
theorem dX8_aStep_16 : decode cX8_aStep 16 = .ok (.aload_n 0, 1) := by decide +kernel
theorem dX8_aStep_17 : decode cX8_aStep 17 = .ok (.getfield 9, 3) := by decide +kernel
theorem dX8_aStep_20 : decode cX8_aStep 20 = .ok (.bipush 8, 2) := by decide +kernel
theorem dX8_aStep_22 : decode cX8_aStep 22 = .ok (.iload_n 2, 1) := by decide +kernel
theorem dX8_aStep_23 : decode cX8_aStep 23 = .ok (.iadd, 1) := by decide +kernel
theorem dX8_aStep_24 : decode cX8_aStep 24 = .ok (.iaload, 1) := by decide +kernel
theorem dX8_aStep_25 : decode cX8_aStep 25 = .ok (.istore_n 3, 1) := by decide +kernel
theorem dX8_aStep_26 : decode cX8_aStep 26 = .ok (.aload_n 0, 1) := by decide +kernel
theorem dX8_aStep_27 : decode cX8_aStep 27 = .ok (.getfield 9, 3) := by decide +kernel
theorem dX8_aStep_30 : decode cX8_aStep 30 = .ok (.bipush 8, 2) := by decide +kernel
theorem dX8_aStep_32 : decode cX8_aStep 32 = .ok (.iload_n 2, 1) := by decide +kernel
theorem dX8_aStep_33 : decode cX8_aStep 33 = .ok (.iadd, 1) := by decide +kernel
theorem dX8_aStep_34 : decode cX8_aStep 34 = .ok (.iconst 1, 1) := by decide +kernel
theorem dX8_aStep_35 : decode cX8_aStep 35 = .ok (.iadd, 1) := by decide +kernel
theorem dX8_aStep_36 : decode cX8_aStep 36 = .ok (.iaload, 1) := by decide +kernel
theorem dX8_aStep_37 : decode cX8_aStep 37 = .ok (.istore 4, 2) := by decide +kernel
theorem dX8_aStep_39 : decode cX8_aStep 39 = .ok (.aload_n 0, 1) := by decide +kernel
theorem dX8_aStep_40 : decode cX8_aStep 40 = .ok (.iload_n 3, 1) := by decide +kernel
theorem dX8_aStep_41 : decode cX8_aStep 41 = .ok (.invokevirtual 65, 3) := by decide +kernel
theorem dX8_aStep_44 : decode cX8_aStep 44 = .ok (.aload_n 0, 1) := by decide +kernel
theorem dX8_aStep_45 : decode cX8_aStep 45 = .ok (.iload 4, 2) := by decide +kernel
theorem dX8_aStep_47 : decode cX8_aStep 47 = .ok (.invokevirtual 65, 3) := by decide +kernel
theorem dX8_aStep_50 : decode cX8_aStep 50 = .ok (.if_icmp .le 28, 3) := by decide +kernel
theorem dX8_aStep_53 : decode cX8_aStep 53 = .ok (.aload_n 0, 1) := by decide +kernel
theorem dX8_aStep_54 : decode cX8_aStep 54 = .ok (.getfield 9, 3) := by decide +kernel
theorem dX8_aStep_57 : decode cX8_aStep 57 = .ok (.bipush 8, 2) := by decide +kernel
theorem dX8_aStep_59 : decode cX8_aStep 59 = .ok (.iload_n 2, 1) := by decide +kernel
theorem dX8_aStep_60 : decode cX8_aStep 60 = .ok (.iadd, 1) := by decide +kernel
theorem dX8_aStep_61 : decode cX8_aStep 61 = .ok (.iload 4, 2) := by decide +kernel
theorem dX8_aStep_63 : decode cX8_aStep 63 = .ok (.iastore, 1) := by decide +kernel
theorem dX8_aStep_64 : decode cX8_aStep 64 = .ok (.aload_n 0, 1) := by decide +kernel
theorem dX8_aStep_65 : decode cX8_aStep 65 = .ok (.getfield 9, 3) := by decide +kernel
theorem dX8_aStep_68 : decode cX8_aStep 68 = .ok (.bipush 8, 2) := by decide +kernel
theorem dX8_aStep_70 : decode cX8_aStep 70 = .ok (.iload_n 2, 1) := by decide +kernel
theorem dX8_aStep_71 : decode cX8_aStep 71 = .ok (.iadd, 1) := by decide +kernel
theorem dX8_aStep_72 : decode cX8_aStep 72 = .ok (.iconst 1, 1) := by decide +kernel
theorem dX8_aStep_73 : decode cX8_aStep 73 = .ok (.iadd, 1) := by decide +kernel
theorem dX8_aStep_74 : decode cX8_aStep 74 = .ok (.iload_n 3, 1) := by decide +kernel
theorem dX8_aStep_75 : decode cX8_aStep 75 = .ok (.iastore, 1) := by decide +kernel
theorem dX8_aStep_76 : decode cX8_aStep 76 = .ok (.iconst 1, 1) := by decide +kernel
theorem dX8_aStep_77 : decode cX8_aStep 77 = .ok (.istore_n 1, 1) := by decide +kernel
theorem dX8_aStep_78 : decode cX8_aStep 78 = .ok (.iinc 2 1, 3) := by decide +kernel
theorem dX8_aStep_81 : decode cX8_aStep 81 = .ok (.goto (-77), 3) := by decide +kernel
theorem dX8_aStep_84 : decode cX8_aStep 84 = .ok (.aload_n 0, 1) := by decide +kernel
theorem dX8_aStep_85 : decode cX8_aStep 85 = .ok (.getfield 9, 3) := by decide +kernel
theorem dX8_aStep_88 : decode cX8_aStep 88 = .ok (.iconst 0, 1) := by decide +kernel
theorem dX8_aStep_89 : decode cX8_aStep 89 = .ok (.dup2, 1) := by decide +kernel
theorem dX8_aStep_90 : decode cX8_aStep 90 = .ok (.iaload, 1) := by decide +kernel
theorem dX8_aStep_91 : decode cX8_aStep 91 = .ok (.iconst 1, 1) := by decide +kernel
theorem dX8_aStep_92 : decode cX8_aStep 92 = .ok (.iadd, 1) := by decide +kernel
theorem dX8_aStep_93 : decode cX8_aStep 93 = .ok (.iastore, 1) := by decide +kernel
theorem dX8_aStep_94 : decode cX8_aStep 94 = .ok (.iload_n 1, 1) := by decide +kernel
theorem dX8_aStep_95 : decode cX8_aStep 95 = .ok (.ireturn, 1) := by decide +kernel
theorem dX8_steps_0 : decode cX8_steps 0 = .ok (.iconst 0, 1) := by decide +kernel
theorem dX8_steps_1 : decode cX8_steps 1 = .ok (.istore_n 2, 1) := by decide +kernel
theorem dX8_steps_2 : decode cX8_steps 2 = .ok (.iload_n 2, 1) := by decide +kernel
theorem dX8_steps_3 : decode cX8_steps 3 = .ok (.iload_n 1, 1) := by decide +kernel
theorem dX8_steps_4 : decode cX8_steps 4 = .ok (.if_icmp .ge 14, 3) := by decide +kernel
theorem dX8_steps_7 : decode cX8_steps 7 = .ok (.aload_n 0, 1) := by decide +kernel
theorem dX8_steps_8 : decode cX8_steps 8 = .ok (.invokevirtual 69, 3) := by decide +kernel
theorem dX8_steps_11 : decode cX8_steps 11 = .ok (.istore_n 3, 1) := by decide +kernel
theorem dX8_steps_12 : decode cX8_steps 12 = .ok (.iinc 2 1, 3) := by decide +kernel
theorem dX8_steps_15 : decode cX8_steps 15 = .ok (.goto (-13), 3) := by decide +kernel
theorem dX8_steps_18 : decode cX8_steps 18 = .ok (.return_, 1) := by decide +kernel
theorem dX8_isKm_0 : decode cX8_isKm 0 = .ok (.iload_n 0, 1) := by decide +kernel
theorem dX8_isKm_1 : decode cX8_isKm 1 = .ok (.iconst 0, 1) := by decide +kernel
theorem dX8_isKm_2 : decode cX8_isKm 2 = .ok (.bipush 69, 2) := by decide +kernel
theorem dX8_isKm_4 : decode cX8_isKm 4 = .ok (.invokestatic 57, 3) := by decide +kernel
theorem dX8_isKm_7 : decode cX8_isKm 7 = .ok (.ireturn, 1) := by decide +kernel
theorem dX8_thing_0 : decode cX8_thing 0 = .ok (.iload_n 1, 1) := by decide +kernel
theorem dX8_thing_1 : decode cX8_thing 1 = .ok (.invokestatic 73, 3) := by decide +kernel
theorem dX8_thing_4 : decode cX8_thing 4 = .ok (.ifCond .eq 23, 3) := by decide +kernel
theorem dX8_thing_7 : decode cX8_thing 7 = .ok (.iload_n 2, 1) := by decide +kernel
theorem dX8_thing_8 : decode cX8_thing 8 = .ok (.iconst 0, 1) := by decide +kernel
theorem dX8_thing_9 : decode cX8_thing 9 = .ok (.bipush 99, 2) := by decide +kernel
theorem dX8_thing_11 : decode cX8_thing 11 = .ok (.invokestatic 57, 3) := by decide +kernel
theorem dX8_thing_14 : decode cX8_thing 14 = .ok (.ifCond .eq 13, 3) := by decide +kernel
theorem dX8_thing_17 : decode cX8_thing 17 = .ok (.iload_n 3, 1) := by decide +kernel
theorem dX8_thing_18 : decode cX8_thing 18 = .ok (.iconst 1, 1) := by decide +kernel
theorem dX8_thing_19 : decode cX8_thing 19 = .ok (.bipush 9, 2) := by decide +kernel
theorem dX8_thing_21 : decode cX8_thing 21 = .ok (.invokestatic 57, 3) := by decide +kernel
theorem dX8_thing_24 : decode cX8_thing 24 = .ok (.ifCond .ne 10, 3) := by decide +kernel
theorem dX8_thing_27 : decode cX8_thing 27 = .ok (.aload_n 0, 1) := by decide +kernel
theorem dX8_thing_28 : decode cX8_thing 28 = .ok (.ldc 77, 2) := by decide +kernel
theorem dX8_thing_30 : decode cX8_thing 30 = .ok (.invokevirtual 78, 3) := by decide +kernel
theorem dX8_thing_33 : decode cX8_thing 33 = .ok (.ireturn, 1) := by decide +kernel
theorem dX8_thing_34 : decode cX8_thing 34 = .ok (.aload_n 0, 1) := by decide +kernel
theorem dX8_thing_35 : decode cX8_thing 35 = .ok (.getfield 9, 3) := by decide +kernel
theorem dX8_thing_38 : decode cX8_thing 38 = .ok (.iconst 2, 1) := by decide +kernel
theorem dX8_thing_39 : decode cX8_thing 39 = .ok (.iaload, 1) := by decide +kernel
theorem dX8_thing_40 : decode cX8_thing 40 = .ok (.istore 4, 2) := by decide +kernel
theorem dX8_thing_42 : decode cX8_thing 42 = .ok (.iload 4, 2) := by decide +kernel
theorem dX8_thing_44 : decode cX8_thing 44 = .ok (.bipush 9, 2) := by decide +kernel
theorem dX8_thing_46 : decode cX8_thing 46 = .ok (.if_icmp .ne 10, 3) := by decide +kernel
theorem dX8_thing_49 : decode cX8_thing 49 = .ok (.aload_n 0, 1) := by decide +kernel
theorem dX8_thing_50 : decode cX8_thing 50 = .ok (.ldc 81, 2) := by decide +kernel
theorem dX8_thing_52 : decode cX8_thing 52 = .ok (.invokevirtual 78, 3) := by decide +kernel
theorem dX8_thing_55 : decode cX8_thing 55 = .ok (.ireturn, 1) := by decide +kernel
theorem dX8_thing_56 : decode cX8_thing 56 = .ok (.aload_n 0, 1) := by decide +kernel
theorem dX8_thing_57 : decode cX8_thing 57 = .ok (.getfield 9, 3) := by decide +kernel
theorem dX8_thing_60 : decode cX8_thing 60 = .ok (.iconst 2, 1) := by decide +kernel
theorem dX8_thing_61 : decode cX8_thing 61 = .ok (.dup2, 1) := by decide +kernel
theorem dX8_thing_62 : decode cX8_thing 62 = .ok (.iaload, 1) := by decide +kernel
theorem dX8_thing_63 : decode cX8_thing 63 = .ok (.iconst 1, 1) := by decide +kernel
theorem dX8_thing_64 : decode cX8_thing 64 = .ok (.iadd, 1) := by decide +kernel
theorem dX8_thing_65 : decode cX8_thing 65 = .ok (.iastore, 1) := by decide +kernel
theorem dX8_thing_66 : decode cX8_thing 66 = .ok (.aload_n 0, 1) := by decide +kernel
theorem dX8_thing_67 : decode cX8_thing 67 = .ok (.getfield 9, 3) := by decide +kernel
theorem dX8_thing_70 : decode cX8_thing 70 = .ok (.bipush 17, 2) := by decide +kernel
theorem dX8_thing_72 : decode cX8_thing 72 = .ok (.iconst 4, 1) := by decide +kernel
theorem dX8_thing_73 : decode cX8_thing 73 = .ok (.iload 4, 2) := by decide +kernel
theorem dX8_thing_75 : decode cX8_thing 75 = .ok (.imul, 1) := by decide +kernel
theorem dX8_thing_76 : decode cX8_thing 76 = .ok (.iadd, 1) := by decide +kernel
theorem dX8_thing_77 : decode cX8_thing 77 = .ok (.iload_n 1, 1) := by decide +kernel
theorem dX8_thing_78 : decode cX8_thing 78 = .ok (.bipush 10, 2) := by decide +kernel
theorem dX8_thing_80 : decode cX8_thing 80 = .ok (.idiv, 1) := by decide +kernel
theorem dX8_thing_81 : decode cX8_thing 81 = .ok (.iastore, 1) := by decide +kernel
theorem dX8_thing_82 : decode cX8_thing 82 = .ok (.aload_n 0, 1) := by decide +kernel
theorem dX8_thing_83 : decode cX8_thing 83 = .ok (.getfield 9, 3) := by decide +kernel
theorem dX8_thing_86 : decode cX8_thing 86 = .ok (.bipush 17, 2) := by decide +kernel
theorem dX8_thing_88 : decode cX8_thing 88 = .ok (.iconst 4, 1) := by decide +kernel
theorem dX8_thing_89 : decode cX8_thing 89 = .ok (.iload 4, 2) := by decide +kernel
theorem dX8_thing_91 : decode cX8_thing 91 = .ok (.imul, 1) := by decide +kernel
theorem dX8_thing_92 : decode cX8_thing 92 = .ok (.iadd, 1) := by decide +kernel
theorem dX8_thing_93 : decode cX8_thing 93 = .ok (.iconst 1, 1) := by decide +kernel
theorem dX8_thing_94 : decode cX8_thing 94 = .ok (.iadd, 1) := by decide +kernel
theorem dX8_thing_95 : decode cX8_thing 95 = .ok (.iload_n 1, 1) := by decide +kernel
theorem dX8_thing_96 : decode cX8_thing 96 = .ok (.bipush 10, 2) := by decide +kernel
theorem dX8_thing_98 : decode cX8_thing 98 = .ok (.irem, 1) := by decide +kernel
theorem dX8_thing_99 : decode cX8_thing 99 = .ok (.iastore, 1) := by decide +kernel
theorem dX8_thing_100 : decode cX8_thing 100 = .ok (.aload_n 0, 1) := by decide +kernel
theorem dX8_thing_101 : decode cX8_thing 101 = .ok (.getfield 9, 3) := by decide +kernel
theorem dX8_thing_104 : decode cX8_thing 104 = .ok (.bipush 17, 2) := by decide +kernel
theorem dX8_thing_106 : decode cX8_thing 106 = .ok (.iconst 4, 1) := by decide +kernel
theorem dX8_thing_107 : decode cX8_thing 107 = .ok (.iload 4, 2) := by decide +kernel
theorem dX8_thing_109 : decode cX8_thing 109 = .ok (.imul, 1) := by decide +kernel
theorem dX8_thing_110 : decode cX8_thing 110 = .ok (.iadd, 1) := by decide +kernel
theorem dX8_thing_111 : decode cX8_thing 111 = .ok (.iconst 2, 1) := by decide +kernel
theorem dX8_thing_112 : decode cX8_thing 112 = .ok (.iadd, 1) := by decide +kernel
theorem dX8_thing_113 : decode cX8_thing 113 = .ok (.iload_n 2, 1) := by decide +kernel
theorem dX8_thing_114 : decode cX8_thing 114 = .ok (.iastore, 1) := by decide +kernel
theorem dX8_thing_115 : decode cX8_thing 115 = .ok (.aload_n 0, 1) := by decide +kernel
theorem dX8_thing_116 : decode cX8_thing 116 = .ok (.getfield 9, 3) := by decide +kernel
theorem dX8_thing_119 : decode cX8_thing 119 = .ok (.bipush 17, 2) := by decide +kernel
theorem dX8_thing_121 : decode cX8_thing 121 = .ok (.iconst 4, 1) := by decide +kernel
theorem dX8_thing_122 : decode cX8_thing 122 = .ok (.iload 4, 2) := by decide +kernel
theorem dX8_thing_124 : decode cX8_thing 124 = .ok (.imul, 1) := by decide +kernel
theorem dX8_thing_125 : decode cX8_thing 125 = .ok (.iadd, 1) := by decide +kernel
theorem dX8_thing_126 : decode cX8_thing 126 = .ok (.iconst 3, 1) := by decide +kernel
theorem dX8_thing_127 : decode cX8_thing 127 = .ok (.iadd, 1) := by decide +kernel
theorem dX8_thing_128 : decode cX8_thing 128 = .ok (.iload_n 3, 1) := by decide +kernel
theorem dX8_thing_129 : decode cX8_thing 129 = .ok (.iastore, 1) := by decide +kernel
theorem dX8_thing_130 : decode cX8_thing 130 = .ok (.aload_n 0, 1) := by decide +kernel
theorem dX8_thing_131 : decode cX8_thing 131 = .ok (.iload 4, 2) := by decide +kernel
theorem dX8_thing_133 : decode cX8_thing 133 = .ok (.invokevirtual 82, 3) := by decide +kernel
theorem dX8_thing_136 : decode cX8_thing 136 = .ok (.iload 4, 2) := by decide +kernel
theorem dX8_thing_138 : decode cX8_thing 138 = .ok (.ireturn, 1) := by decide +kernel
theorem dX8_thingIs_0 : decode cX8_thingIs 0 = .ok (.aload_n 0, 1) := by decide +kernel
theorem dX8_thingIs_1 : decode cX8_thingIs 1 = .ok (.iload_n 1, 1) := by decide +kernel
theorem dX8_thingIs_2 : decode cX8_thingIs 2 = .ok (.invokevirtual 86, 3) := by decide +kernel
theorem dX8_thingIs_5 : decode cX8_thingIs 5 = .ok (.ifCond .eq 13, 3) := by decide +kernel
theorem dX8_thingIs_8 : decode cX8_thingIs 8 = .ok (.iload_n 2, 1) := by decide +kernel
theorem dX8_thingIs_9 : decode cX8_thingIs 9 = .ok (.iconst 0, 1) := by decide +kernel
theorem dX8_thingIs_10 : decode cX8_thingIs 10 = .ok (.bipush 6, 2) := by decide +kernel
theorem dX8_thingIs_12 : decode cX8_thingIs 12 = .ok (.invokestatic 57, 3) := by decide +kernel
theorem dX8_thingIs_15 : decode cX8_thingIs 15 = .ok (.ifCond .ne 10, 3) := by decide +kernel
theorem dX8_thingIs_18 : decode cX8_thingIs 18 = .ok (.aload_n 0, 1) := by decide +kernel
theorem dX8_thingIs_19 : decode cX8_thingIs 19 = .ok (.ldc 77, 2) := by decide +kernel
theorem dX8_thingIs_21 : decode cX8_thingIs 21 = .ok (.invokevirtual 78, 3) := by decide +kernel
theorem dX8_thingIs_24 : decode cX8_thingIs 24 = .ok (.ireturn, 1) := by decide +kernel
theorem dX8_thingIs_25 : decode cX8_thingIs 25 = .ok (.iload_n 2, 1) := by decide +kernel
theorem dX8_thingIs_26 : decode cX8_thingIs 26 = .ok (.iconst 4, 1) := by decide +kernel
theorem dX8_thingIs_27 : decode cX8_thingIs 27 = .ok (.if_icmp .ge 12, 3) := by decide +kernel
theorem dX8_thingIs_30 : decode cX8_thingIs 30 = .ok (.aload_n 0, 1) := by decide +kernel
theorem dX8_thingIs_31 : decode cX8_thingIs 31 = .ok (.iload_n 1, 1) := by decide +kernel
theorem dX8_thingIs_32 : decode cX8_thingIs 32 = .ok (.iload_n 2, 1) := by decide +kernel
theorem dX8_thingIs_33 : decode cX8_thingIs 33 = .ok (.invokevirtual 61, 3) := by decide +kernel
theorem dX8_thingIs_36 : decode cX8_thingIs 36 = .ok (.goto 34, 3) := by decide +kernel
theorem dX8_thingIs_39 : decode cX8_thingIs 39 = .ok (.iload_n 2, 1) := by decide +kernel
theorem dX8_thingIs_40 : decode cX8_thingIs 40 = .ok (.iconst 4, 1) := by decide +kernel
theorem dX8_thingIs_41 : decode cX8_thingIs 41 = .ok (.if_icmp .ne 11, 3) := by decide +kernel
theorem dX8_thingIs_44 : decode cX8_thingIs 44 = .ok (.aload_n 0, 1) := by decide +kernel
theorem dX8_thingIs_45 : decode cX8_thingIs 45 = .ok (.iload_n 1, 1) := by decide +kernel
theorem dX8_thingIs_46 : decode cX8_thingIs 46 = .ok (.invokevirtual 89, 3) := by decide +kernel
theorem dX8_thingIs_49 : decode cX8_thingIs 49 = .ok (.goto 21, 3) := by decide +kernel
theorem dX8_thingIs_52 : decode cX8_thingIs 52 = .ok (.iload_n 2, 1) := by decide +kernel
theorem dX8_thingIs_53 : decode cX8_thingIs 53 = .ok (.iconst 5, 1) := by decide +kernel
theorem dX8_thingIs_54 : decode cX8_thingIs 54 = .ok (.if_icmp .ne 11, 3) := by decide +kernel
theorem dX8_thingIs_57 : decode cX8_thingIs 57 = .ok (.aload_n 0, 1) := by decide +kernel
theorem dX8_thingIs_58 : decode cX8_thingIs 58 = .ok (.iload_n 1, 1) := by decide +kernel
theorem dX8_thingIs_59 : decode cX8_thingIs 59 = .ok (.invokevirtual 65, 3) := by decide +kernel
theorem dX8_thingIs_62 : decode cX8_thingIs 62 = .ok (.goto 8, 3) := by decide +kernel
theorem dX8_thingIs_65 : decode cX8_thingIs 65 = .ok (.aload_n 0, 1) := by decide +kernel
theorem dX8_thingIs_66 : decode cX8_thingIs 66 = .ok (.iload_n 1, 1) := by decide +kernel
theorem dX8_thingIs_67 : decode cX8_thingIs 67 = .ok (.invokevirtual 92, 3) := by decide +kernel
theorem dX8_thingIs_70 : decode cX8_thingIs 70 = .ok (.ireturn, 1) := by decide +kernel
theorem dX8_become_0 : decode cX8_become 0 = .ok (.aload_n 0, 1) := by decide +kernel
theorem dX8_become_1 : decode cX8_become 1 = .ok (.iload_n 1, 1) := by decide +kernel
theorem dX8_become_2 : decode cX8_become 2 = .ok (.invokevirtual 86, 3) := by decide +kernel
theorem dX8_become_5 : decode cX8_become 5 = .ok (.ifCond .eq 10, 3) := by decide +kernel
theorem dX8_become_8 : decode cX8_become 8 = .ok (.iload_n 2, 1) := by decide +kernel
theorem dX8_become_9 : decode cX8_become 9 = .ok (.invokestatic 73, 3) := by decide +kernel
theorem dX8_become_12 : decode cX8_become 12 = .ok (.ifCond .ne 10, 3) := by decide +kernel
theorem dX8_become_15 : decode cX8_become 15 = .ok (.aload_n 0, 1) := by decide +kernel
theorem dX8_become_16 : decode cX8_become 16 = .ok (.ldc 77, 2) := by decide +kernel
theorem dX8_become_18 : decode cX8_become 18 = .ok (.invokevirtual 78, 3) := by decide +kernel
theorem dX8_become_21 : decode cX8_become 21 = .ok (.ireturn, 1) := by decide +kernel
theorem dX8_become_22 : decode cX8_become 22 = .ok (.aload_n 0, 1) := by decide +kernel
theorem dX8_become_23 : decode cX8_become 23 = .ok (.getfield 9, 3) := by decide +kernel
theorem dX8_become_26 : decode cX8_become 26 = .ok (.bipush 17, 2) := by decide +kernel
theorem dX8_become_28 : decode cX8_become 28 = .ok (.iconst 4, 1) := by decide +kernel
theorem dX8_become_29 : decode cX8_become 29 = .ok (.iload_n 1, 1) := by decide +kernel
theorem dX8_become_30 : decode cX8_become 30 = .ok (.imul, 1) := by decide +kernel
theorem dX8_become_31 : decode cX8_become 31 = .ok (.iadd, 1) := by decide +kernel
theorem dX8_become_32 : decode cX8_become 32 = .ok (.iconst 1, 1) := by decide +kernel
theorem dX8_become_33 : decode cX8_become 33 = .ok (.iadd, 1) := by decide +kernel
theorem dX8_become_34 : decode cX8_become 34 = .ok (.iload_n 2, 1) := by decide +kernel
theorem dX8_become_35 : decode cX8_become 35 = .ok (.bipush 10, 2) := by decide +kernel
theorem dX8_become_37 : decode cX8_become 37 = .ok (.irem, 1) := by decide +kernel
theorem dX8_become_38 : decode cX8_become 38 = .ok (.iastore, 1) := by decide +kernel
theorem dX8_become_39 : decode cX8_become 39 = .ok (.aload_n 0, 1) := by decide +kernel
theorem dX8_become_40 : decode cX8_become 40 = .ok (.bipush 17, 2) := by decide +kernel
theorem dX8_become_42 : decode cX8_become 42 = .ok (.iconst 4, 1) := by decide +kernel
theorem dX8_become_43 : decode cX8_become 43 = .ok (.iload_n 1, 1) := by decide +kernel
theorem dX8_become_44 : decode cX8_become 44 = .ok (.imul, 1) := by decide +kernel
theorem dX8_become_45 : decode cX8_become 45 = .ok (.iadd, 1) := by decide +kernel
theorem dX8_become_46 : decode cX8_become 46 = .ok (.iload_n 2, 1) := by decide +kernel
theorem dX8_become_47 : decode cX8_become 47 = .ok (.bipush 10, 2) := by decide +kernel
theorem dX8_become_49 : decode cX8_become 49 = .ok (.idiv, 1) := by decide +kernel
theorem dX8_become_50 : decode cX8_become 50 = .ok (.invokevirtual 95, 3) := by decide +kernel
theorem dX8_become_53 : decode cX8_become 53 = .ok (.ireturn, 1) := by decide +kernel
theorem dX8_as_0 : decode cX8_as 0 = .ok (.aload_n 0, 1) := by decide +kernel
theorem dX8_as_1 : decode cX8_as 1 = .ok (.iload_n 1, 1) := by decide +kernel
theorem dX8_as_2 : decode cX8_as 2 = .ok (.invokevirtual 86, 3) := by decide +kernel
theorem dX8_as_5 : decode cX8_as 5 = .ok (.ifCond .eq 13, 3) := by decide +kernel
theorem dX8_as_8 : decode cX8_as 8 = .ok (.iload_n 2, 1) := by decide +kernel
theorem dX8_as_9 : decode cX8_as 9 = .ok (.iconst 0, 1) := by decide +kernel
theorem dX8_as_10 : decode cX8_as 10 = .ok (.bipush 6, 2) := by decide +kernel
theorem dX8_as_12 : decode cX8_as 12 = .ok (.invokestatic 57, 3) := by decide +kernel
theorem dX8_as_15 : decode cX8_as 15 = .ok (.ifCond .ne 10, 3) := by decide +kernel
theorem dX8_as_18 : decode cX8_as 18 = .ok (.aload_n 0, 1) := by decide +kernel
theorem dX8_as_19 : decode cX8_as 19 = .ok (.ldc 77, 2) := by decide +kernel
theorem dX8_as_21 : decode cX8_as 21 = .ok (.invokevirtual 78, 3) := by decide +kernel
theorem dX8_as_24 : decode cX8_as 24 = .ok (.ireturn, 1) := by decide +kernel
theorem dX8_as_25 : decode cX8_as 25 = .ok (.aload_n 0, 1) := by decide +kernel
theorem dX8_as_26 : decode cX8_as 26 = .ok (.iload_n 1, 1) := by decide +kernel
theorem dX8_as_27 : decode cX8_as 27 = .ok (.iconst 0, 1) := by decide +kernel
theorem dX8_as_28 : decode cX8_as 28 = .ok (.invokevirtual 61, 3) := by decide +kernel
theorem dX8_as_31 : decode cX8_as 31 = .ok (.istore_n 3, 1) := by decide +kernel
theorem dX8_as_32 : decode cX8_as 32 = .ok (.iload_n 2, 1) := by decide +kernel
theorem dX8_as_33 : decode cX8_as 33 = .ok (.ifCond .eq 28, 3) := by decide +kernel
theorem dX8_as_36 : decode cX8_as 36 = .ok (.iload_n 2, 1) := by decide +kernel
theorem dX8_as_37 : decode cX8_as 37 = .ok (.iload_n 3, 1) := by decide +kernel
theorem dX8_as_38 : decode cX8_as 38 = .ok (.if_icmp .eq 23, 3) := by decide +kernel
theorem dX8_as_41 : decode cX8_as 41 = .ok (.iload_n 2, 1) := by decide +kernel
theorem dX8_as_42 : decode cX8_as 42 = .ok (.iconst 1, 1) := by decide +kernel
theorem dX8_as_43 : decode cX8_as 43 = .ok (.if_icmp .ne 8, 3) := by decide +kernel
theorem dX8_as_46 : decode cX8_as 46 = .ok (.iload_n 3, 1) := by decide +kernel
theorem dX8_as_47 : decode cX8_as 47 = .ok (.iconst 4, 1) := by decide +kernel
theorem dX8_as_48 : decode cX8_as 48 = .ok (.if_icmp .eq 13, 3) := by decide +kernel
theorem dX8_as_51 : decode cX8_as 51 = .ok (.iload_n 2, 1) := by decide +kernel
theorem dX8_as_52 : decode cX8_as 52 = .ok (.iconst 2, 1) := by decide +kernel
theorem dX8_as_53 : decode cX8_as 53 = .ok (.if_icmp .ne 12, 3) := by decide +kernel
theorem dX8_as_56 : decode cX8_as 56 = .ok (.iload_n 3, 1) := by decide +kernel
theorem dX8_as_57 : decode cX8_as 57 = .ok (.iconst 5, 1) := by decide +kernel
theorem dX8_as_58 : decode cX8_as 58 = .ok (.if_icmp .ne 7, 3) := by decide +kernel
theorem dX8_as_61 : decode cX8_as 61 = .ok (.iconst 1, 1) := by decide +kernel
theorem dX8_as_62 : decode cX8_as 62 = .ok (.goto 4, 3) := by decide +kernel
theorem dX8_as_65 : decode cX8_as 65 = .ok (.iconst 0, 1) := by decide +kernel
theorem dX8_as_66 : decode cX8_as 66 = .ok (.istore 4, 2) := by decide +kernel
theorem dX8_as_68 : decode cX8_as 68 = .ok (.iload 4, 2) := by decide +kernel
theorem dX8_as_70 : decode cX8_as 70 = .ok (.ifCond .eq 12, 3) := by decide +kernel
theorem dX8_as_73 : decode cX8_as 73 = .ok (.aload_n 0, 1) := by decide +kernel
theorem dX8_as_74 : decode cX8_as 74 = .ok (.iload_n 1, 1) := by decide +kernel
theorem dX8_as_75 : decode cX8_as 75 = .ok (.iconst 1, 1) := by decide +kernel
theorem dX8_as_76 : decode cX8_as 76 = .ok (.invokevirtual 61, 3) := by decide +kernel
theorem dX8_as_79 : decode cX8_as 79 = .ok (.goto 9, 3) := by decide +kernel
theorem dX8_as_82 : decode cX8_as 82 = .ok (.aload_n 0, 1) := by decide +kernel
theorem dX8_as_83 : decode cX8_as 83 = .ok (.ldc 98, 2) := by decide +kernel
theorem dX8_as_85 : decode cX8_as 85 = .ok (.invokevirtual 78, 3) := by decide +kernel
theorem dX8_as_88 : decode cX8_as 88 = .ok (.ireturn, 1) := by decide +kernel
theorem dX8_weigh_0 : decode cX8_weigh 0 = .ok (.aload_n 0, 1) := by decide +kernel
theorem dX8_weigh_1 : decode cX8_weigh 1 = .ok (.iload_n 1, 1) := by decide +kernel
theorem dX8_weigh_2 : decode cX8_weigh 2 = .ok (.invokevirtual 86, 3) := by decide +kernel
theorem dX8_weigh_5 : decode cX8_weigh 5 = .ok (.ifCond .eq 29, 3) := by decide +kernel
theorem dX8_weigh_8 : decode cX8_weigh 8 = .ok (.iload_n 2, 1) := by decide +kernel
theorem dX8_weigh_9 : decode cX8_weigh 9 = .ok (.iconst 0, 1) := by decide +kernel
theorem dX8_weigh_10 : decode cX8_weigh 10 = .ok (.bipush 99, 2) := by decide +kernel
theorem dX8_weigh_12 : decode cX8_weigh 12 = .ok (.invokestatic 57, 3) := by decide +kernel
theorem dX8_weigh_15 : decode cX8_weigh 15 = .ok (.ifCond .eq 19, 3) := by decide +kernel
theorem dX8_weigh_18 : decode cX8_weigh 18 = .ok (.aload_n 0, 1) := by decide +kernel
theorem dX8_weigh_19 : decode cX8_weigh 19 = .ok (.bipush 17, 2) := by decide +kernel
theorem dX8_weigh_21 : decode cX8_weigh 21 = .ok (.iconst 4, 1) := by decide +kernel
theorem dX8_weigh_22 : decode cX8_weigh 22 = .ok (.iload_n 1, 1) := by decide +kernel
theorem dX8_weigh_23 : decode cX8_weigh 23 = .ok (.imul, 1) := by decide +kernel
theorem dX8_weigh_24 : decode cX8_weigh 24 = .ok (.iadd, 1) := by decide +kernel
theorem dX8_weigh_25 : decode cX8_weigh 25 = .ok (.iconst 2, 1) := by decide +kernel
theorem dX8_weigh_26 : decode cX8_weigh 26 = .ok (.iadd, 1) := by decide +kernel
theorem dX8_weigh_27 : decode cX8_weigh 27 = .ok (.iload_n 2, 1) := by decide +kernel
theorem dX8_weigh_28 : decode cX8_weigh 28 = .ok (.invokevirtual 95, 3) := by decide +kernel
theorem dX8_weigh_31 : decode cX8_weigh 31 = .ok (.goto 9, 3) := by decide +kernel
theorem dX8_weigh_34 : decode cX8_weigh 34 = .ok (.aload_n 0, 1) := by decide +kernel
theorem dX8_weigh_35 : decode cX8_weigh 35 = .ok (.ldc 77, 2) := by decide +kernel
theorem dX8_weigh_37 : decode cX8_weigh 37 = .ok (.invokevirtual 78, 3) := by decide +kernel
theorem dX8_weigh_40 : decode cX8_weigh 40 = .ok (.ireturn, 1) := by decide +kernel
theorem dX8_at_0 : decode cX8_at 0 = .ok (.iload_n 1, 1) := by decide +kernel
theorem dX8_at_1 : decode cX8_at 1 = .ok (.iconst 0, 1) := by decide +kernel
theorem dX8_at_2 : decode cX8_at 2 = .ok (.aload_n 0, 1) := by decide +kernel
theorem dX8_at_3 : decode cX8_at 3 = .ok (.getfield 9, 3) := by decide +kernel
theorem dX8_at_6 : decode cX8_at 6 = .ok (.iconst 3, 1) := by decide +kernel
theorem dX8_at_7 : decode cX8_at 7 = .ok (.iaload, 1) := by decide +kernel
theorem dX8_at_8 : decode cX8_at 8 = .ok (.iconst 1, 1) := by decide +kernel
theorem dX8_at_9 : decode cX8_at 9 = .ok (.isub, 1) := by decide +kernel
theorem dX8_at_10 : decode cX8_at 10 = .ok (.invokestatic 57, 3) := by decide +kernel
theorem dX8_at_13 : decode cX8_at 13 = .ok (.ifCond .eq 15, 3) := by decide +kernel
theorem dX8_at_16 : decode cX8_at 16 = .ok (.aload_n 0, 1) := by decide +kernel
theorem dX8_at_17 : decode cX8_at 17 = .ok (.getfield 9, 3) := by decide +kernel
theorem dX8_at_20 : decode cX8_at 20 = .ok (.bipush 8, 2) := by decide +kernel
theorem dX8_at_22 : decode cX8_at 22 = .ok (.iload_n 1, 1) := by decide +kernel
theorem dX8_at_23 : decode cX8_at 23 = .ok (.iadd, 1) := by decide +kernel
theorem dX8_at_24 : decode cX8_at 24 = .ok (.iaload, 1) := by decide +kernel
theorem dX8_at_25 : decode cX8_at 25 = .ok (.goto 9, 3) := by decide +kernel
theorem dX8_at_28 : decode cX8_at 28 = .ok (.aload_n 0, 1) := by decide +kernel
theorem dX8_at_29 : decode cX8_at 29 = .ok (.ldc 77, 2) := by decide +kernel
theorem dX8_at_31 : decode cX8_at 31 = .ok (.invokevirtual 78, 3) := by decide +kernel
theorem dX8_at_34 : decode cX8_at 34 = .ok (.ireturn, 1) := by decide +kernel
theorem dX8_leave_0 : decode cX8_leave 0 = .ok (.aload_n 0, 1) := by decide +kernel
theorem dX8_leave_1 : decode cX8_leave 1 = .ok (.iload_n 1, 1) := by decide +kernel
theorem dX8_leave_2 : decode cX8_leave 2 = .ok (.invokevirtual 86, 3) := by decide +kernel
theorem dX8_leave_5 : decode cX8_leave 5 = .ok (.ifCond .ne 10, 3) := by decide +kernel
theorem dX8_leave_8 : decode cX8_leave 8 = .ok (.aload_n 0, 1) := by decide +kernel
theorem dX8_leave_9 : decode cX8_leave 9 = .ok (.ldc 77, 2) := by decide +kernel
theorem dX8_leave_11 : decode cX8_leave 11 = .ok (.invokevirtual 78, 3) := by decide +kernel
theorem dX8_leave_14 : decode cX8_leave 14 = .ok (.ireturn, 1) := by decide +kernel
theorem dX8_leave_15 : decode cX8_leave 15 = .ok (.aload_n 0, 1) := by decide +kernel
theorem dX8_leave_16 : decode cX8_leave 16 = .ok (.iload_n 1, 1) := by decide +kernel
theorem dX8_leave_17 : decode cX8_leave 17 = .ok (.invokevirtual 89, 3) := by decide +kernel
theorem dX8_leave_20 : decode cX8_leave 20 = .ok (.istore_n 2, 1) := by decide +kernel
theorem dX8_leave_21 : decode cX8_leave 21 = .ok (.iload_n 2, 1) := by decide +kernel
theorem dX8_leave_22 : decode cX8_leave 22 = .ok (.bipush (-2), 2) := by decide +kernel
theorem dX8_leave_24 : decode cX8_leave 24 = .ok (.if_icmp .ne 10, 3) := by decide +kernel
theorem dX8_leave_27 : decode cX8_leave 27 = .ok (.aload_n 0, 1) := by decide +kernel
theorem dX8_leave_28 : decode cX8_leave 28 = .ok (.ldc 99, 2) := by decide +kernel
theorem dX8_leave_30 : decode cX8_leave 30 = .ok (.invokevirtual 78, 3) := by decide +kernel
theorem dX8_leave_33 : decode cX8_leave 33 = .ok (.ireturn, 1) := by decide +kernel
theorem dX8_leave_34 : decode cX8_leave 34 = .ok (.iload_n 2, 1) := by decide +kernel
theorem dX8_leave_35 : decode cX8_leave 35 = .ok (.iconst (-1), 1) := by decide +kernel
theorem dX8_leave_36 : decode cX8_leave 36 = .ok (.if_icmp .ne 13, 3) := by decide +kernel
theorem dX8_leave_39 : decode cX8_leave 39 = .ok (.aload_n 0, 1) := by decide +kernel
theorem dX8_leave_40 : decode cX8_leave 40 = .ok (.getfield 9, 3) := by decide +kernel
theorem dX8_leave_43 : decode cX8_leave 43 = .ok (.iconst 4, 1) := by decide +kernel
theorem dX8_leave_44 : decode cX8_leave 44 = .ok (.iconst (-1), 1) := by decide +kernel
theorem dX8_leave_45 : decode cX8_leave 45 = .ok (.iastore, 1) := by decide +kernel
theorem dX8_leave_46 : decode cX8_leave 46 = .ok (.goto 8, 3) := by decide +kernel
theorem dX8_leave_49 : decode cX8_leave 49 = .ok (.aload_n 0, 1) := by decide +kernel
theorem dX8_leave_50 : decode cX8_leave 50 = .ok (.iload_n 2, 1) := by decide +kernel
theorem dX8_leave_51 : decode cX8_leave 51 = .ok (.invokevirtual 100, 3) := by decide +kernel
theorem dX8_leave_54 : decode cX8_leave 54 = .ok (.aload_n 0, 1) := by decide +kernel
theorem dX8_leave_55 : decode cX8_leave 55 = .ok (.getfield 9, 3) := by decide +kernel
theorem dX8_leave_58 : decode cX8_leave 58 = .ok (.iconst 3, 1) := by decide +kernel
theorem dX8_leave_59 : decode cX8_leave 59 = .ok (.iaload, 1) := by decide +kernel
theorem dX8_leave_60 : decode cX8_leave 60 = .ok (.ireturn, 1) := by decide +kernel
theorem dX8_stow_0 : decode cX8_stow 0 = .ok (.aload_n 0, 1) := by decide +kernel
theorem dX8_stow_1 : decode cX8_stow 1 = .ok (.iload_n 1, 1) := by decide +kernel
theorem dX8_stow_2 : decode cX8_stow 2 = .ok (.invokevirtual 86, 3) := by decide +kernel
theorem dX8_stow_5 : decode cX8_stow 5 = .ok (.ifCond .ne 10, 3) := by decide +kernel
theorem dX8_stow_8 : decode cX8_stow 8 = .ok (.aload_n 0, 1) := by decide +kernel
theorem dX8_stow_9 : decode cX8_stow 9 = .ok (.ldc 77, 2) := by decide +kernel
theorem dX8_stow_11 : decode cX8_stow 11 = .ok (.invokevirtual 78, 3) := by decide +kernel
theorem dX8_stow_14 : decode cX8_stow 14 = .ok (.ireturn, 1) := by decide +kernel
theorem dX8_stow_15 : decode cX8_stow 15 = .ok (.aload_n 0, 1) := by decide +kernel
theorem dX8_stow_16 : decode cX8_stow 16 = .ok (.iload_n 1, 1) := by decide +kernel
theorem dX8_stow_17 : decode cX8_stow 17 = .ok (.invokevirtual 89, 3) := by decide +kernel
theorem dX8_stow_20 : decode cX8_stow 20 = .ok (.bipush (-2), 2) := by decide +kernel
theorem dX8_stow_22 : decode cX8_stow 22 = .ok (.if_icmp .eq 10, 3) := by decide +kernel
theorem dX8_stow_25 : decode cX8_stow 25 = .ok (.aload_n 0, 1) := by decide +kernel
theorem dX8_stow_26 : decode cX8_stow 26 = .ok (.ldc 99, 2) := by decide +kernel
theorem dX8_stow_28 : decode cX8_stow 28 = .ok (.invokevirtual 78, 3) := by decide +kernel
theorem dX8_stow_31 : decode cX8_stow 31 = .ok (.ireturn, 1) := by decide +kernel
theorem dX8_stow_32 : decode cX8_stow 32 = .ok (.aload_n 0, 1) := by decide +kernel
theorem dX8_stow_33 : decode cX8_stow 33 = .ok (.iload_n 1, 1) := by decide +kernel
theorem dX8_stow_34 : decode cX8_stow 34 = .ok (.invokevirtual 82, 3) := by decide +kernel
theorem dX8_stow_37 : decode cX8_stow 37 = .ok (.aload_n 0, 1) := by decide +kernel
theorem dX8_stow_38 : decode cX8_stow 38 = .ok (.getfield 9, 3) := by decide +kernel
theorem dX8_stow_41 : decode cX8_stow 41 = .ok (.iconst 3, 1) := by decide +kernel
theorem dX8_stow_42 : decode cX8_stow 42 = .ok (.iaload, 1) := by decide +kernel
theorem dX8_stow_43 : decode cX8_stow 43 = .ok (.ireturn, 1) := by decide +kernel
theorem dX8_zip_0 : decode cX8_zip 0 = .ok (.iload_n 1, 1) := by decide +kernel
theorem dX8_zip_1 : decode cX8_zip 1 = .ok (.iconst (-1), 1) := by decide +kernel
theorem dX8_zip_2 : decode cX8_zip 2 = .ok (.if_icmp .eq 18, 3) := by decide +kernel
theorem dX8_zip_5 : decode cX8_zip 5 = .ok (.aload_n 0, 1) := by decide +kernel
theorem dX8_zip_6 : decode cX8_zip 6 = .ok (.iload_n 1, 1) := by decide +kernel
theorem dX8_zip_7 : decode cX8_zip 7 = .ok (.invokevirtual 86, 3) := by decide +kernel
theorem dX8_zip_10 : decode cX8_zip 10 = .ok (.ifCond .ne 10, 3) := by decide +kernel
theorem dX8_zip_13 : decode cX8_zip 13 = .ok (.aload_n 0, 1) := by decide +kernel
theorem dX8_zip_14 : decode cX8_zip 14 = .ok (.ldc 77, 2) := by decide +kernel
theorem dX8_zip_16 : decode cX8_zip 16 = .ok (.invokevirtual 78, 3) := by decide +kernel
theorem dX8_zip_19 : decode cX8_zip 19 = .ok (.ireturn, 1) := by decide +kernel
theorem dX8_zip_20 : decode cX8_zip 20 = .ok (.iload_n 1, 1) := by decide +kernel
theorem dX8_zip_21 : decode cX8_zip 21 = .ok (.iconst (-1), 1) := by decide +kernel
theorem dX8_zip_22 : decode cX8_zip 22 = .ok (.if_icmp .eq 18, 3) := by decide +kernel
theorem dX8_zip_25 : decode cX8_zip 25 = .ok (.aload_n 0, 1) := by decide +kernel
theorem dX8_zip_26 : decode cX8_zip 26 = .ok (.iload_n 1, 1) := by decide +kernel
theorem dX8_zip_27 : decode cX8_zip 27 = .ok (.invokevirtual 89, 3) := by decide +kernel
theorem dX8_zip_30 : decode cX8_zip 30 = .ok (.ifCond .ge 10, 3) := by decide +kernel
theorem dX8_zip_33 : decode cX8_zip 33 = .ok (.aload_n 0, 1) := by decide +kernel
theorem dX8_zip_34 : decode cX8_zip 34 = .ok (.ldc 99, 2) := by decide +kernel
theorem dX8_zip_36 : decode cX8_zip 36 = .ok (.invokevirtual 78, 3) := by decide +kernel
theorem dX8_zip_39 : decode cX8_zip 39 = .ok (.ireturn, 1) := by decide +kernel
theorem dX8_zip_40 : decode cX8_zip 40 = .ok (.aload_n 0, 1) := by decide +kernel
theorem dX8_zip_41 : decode cX8_zip 41 = .ok (.getfield 9, 3) := by decide +kernel
theorem dX8_zip_44 : decode cX8_zip 44 = .ok (.iconst 4, 1) := by decide +kernel
theorem dX8_zip_45 : decode cX8_zip 45 = .ok (.iaload, 1) := by decide +kernel
theorem dX8_zip_46 : decode cX8_zip 46 = .ok (.istore_n 2, 1) := by decide +kernel
theorem dX8_zip_47 : decode cX8_zip 47 = .ok (.aload_n 0, 1) := by decide +kernel
theorem dX8_zip_48 : decode cX8_zip 48 = .ok (.getfield 9, 3) := by decide +kernel
theorem dX8_zip_51 : decode cX8_zip 51 = .ok (.iconst 4, 1) := by decide +kernel
theorem dX8_zip_52 : decode cX8_zip 52 = .ok (.iconst (-1), 1) := by decide +kernel
theorem dX8_zip_53 : decode cX8_zip 53 = .ok (.iastore, 1) := by decide +kernel
theorem dX8_zip_54 : decode cX8_zip 54 = .ok (.iload_n 1, 1) := by decide +kernel
theorem dX8_zip_55 : decode cX8_zip 55 = .ok (.iconst (-1), 1) := by decide +kernel
theorem dX8_zip_56 : decode cX8_zip 56 = .ok (.if_icmp .eq 12, 3) := by decide +kernel
theorem dX8_zip_59 : decode cX8_zip 59 = .ok (.aload_n 0, 1) := by decide +kernel
theorem dX8_zip_60 : decode cX8_zip 60 = .ok (.aload_n 0, 1) := by decide +kernel
theorem dX8_zip_61 : decode cX8_zip 61 = .ok (.iload_n 1, 1) := by decide +kernel
theorem dX8_zip_62 : decode cX8_zip 62 = .ok (.invokevirtual 89, 3) := by decide +kernel
theorem dX8_zip_65 : decode cX8_zip 65 = .ok (.invokevirtual 100, 3) := by decide +kernel
theorem dX8_zip_68 : decode cX8_zip 68 = .ok (.iload_n 2, 1) := by decide +kernel
theorem dX8_zip_69 : decode cX8_zip 69 = .ok (.iconst (-1), 1) := by decide +kernel
theorem dX8_zip_70 : decode cX8_zip 70 = .ok (.if_icmp .eq 8, 3) := by decide +kernel
theorem dX8_zip_73 : decode cX8_zip 73 = .ok (.aload_n 0, 1) := by decide +kernel
theorem dX8_zip_74 : decode cX8_zip 74 = .ok (.iload_n 2, 1) := by decide +kernel
theorem dX8_zip_75 : decode cX8_zip 75 = .ok (.invokevirtual 82, 3) := by decide +kernel
theorem dX8_zip_78 : decode cX8_zip 78 = .ok (.aload_n 0, 1) := by decide +kernel
theorem dX8_zip_79 : decode cX8_zip 79 = .ok (.getfield 9, 3) := by decide +kernel
theorem dX8_zip_82 : decode cX8_zip 82 = .ok (.iconst 4, 1) := by decide +kernel
theorem dX8_zip_83 : decode cX8_zip 83 = .ok (.iload_n 1, 1) := by decide +kernel
theorem dX8_zip_84 : decode cX8_zip 84 = .ok (.iastore, 1) := by decide +kernel
theorem dX8_zip_85 : decode cX8_zip 85 = .ok (.iload_n 2, 1) := by decide +kernel
theorem dX8_zip_86 : decode cX8_zip 86 = .ok (.ireturn, 1) := by decide +kernel
theorem dX8_feed_0 : decode cX8_feed 0 = .ok (.iload_n 3, 1) := by decide +kernel
theorem dX8_feed_1 : decode cX8_feed 1 = .ok (.iconst 1, 1) := by decide +kernel
theorem dX8_feed_2 : decode cX8_feed 2 = .ok (.bipush 8, 2) := by decide +kernel
theorem dX8_feed_4 : decode cX8_feed 4 = .ok (.invokestatic 57, 3) := by decide +kernel
theorem dX8_feed_7 : decode cX8_feed 7 = .ok (.ifCond .ne 10, 3) := by decide +kernel
theorem dX8_feed_10 : decode cX8_feed 10 = .ok (.aload_n 0, 1) := by decide +kernel
theorem dX8_feed_11 : decode cX8_feed 11 = .ok (.ldc 77, 2) := by decide +kernel
theorem dX8_feed_13 : decode cX8_feed 13 = .ok (.invokevirtual 78, 3) := by decide +kernel
theorem dX8_feed_16 : decode cX8_feed 16 = .ok (.ireturn, 1) := by decide +kernel
theorem dX8_feed_17 : decode cX8_feed 17 = .ok (.aload_n 0, 1) := by decide +kernel
theorem dX8_feed_18 : decode cX8_feed 18 = .ok (.getfield 9, 3) := by decide +kernel
theorem dX8_feed_21 : decode cX8_feed 21 = .ok (.iconst 5, 1) := by decide +kernel
theorem dX8_feed_22 : decode cX8_feed 22 = .ok (.iaload, 1) := by decide +kernel
theorem dX8_feed_23 : decode cX8_feed 23 = .ok (.iload_n 3, 1) := by decide +kernel
theorem dX8_feed_24 : decode cX8_feed 24 = .ok (.iadd, 1) := by decide +kernel
theorem dX8_feed_25 : decode cX8_feed 25 = .ok (.bipush 60, 2) := by decide +kernel
theorem dX8_feed_27 : decode cX8_feed 27 = .ok (.if_icmp .le 10, 3) := by decide +kernel
theorem dX8_feed_30 : decode cX8_feed 30 = .ok (.aload_n 0, 1) := by decide +kernel
theorem dX8_feed_31 : decode cX8_feed 31 = .ok (.ldc 81, 2) := by decide +kernel
theorem dX8_feed_33 : decode cX8_feed 33 = .ok (.invokevirtual 78, 3) := by decide +kernel
theorem dX8_feed_36 : decode cX8_feed 36 = .ok (.ireturn, 1) := by decide +kernel
theorem dX8_feed_37 : decode cX8_feed 37 = .ok (.iconst 0, 1) := by decide +kernel
theorem dX8_feed_38 : decode cX8_feed 38 = .ok (.istore 4, 2) := by decide +kernel
theorem dX8_feed_40 : decode cX8_feed 40 = .ok (.iload 4, 2) := by decide +kernel
theorem dX8_feed_42 : decode cX8_feed 42 = .ok (.iload_n 3, 1) := by decide +kernel
theorem dX8_feed_43 : decode cX8_feed 43 = .ok (.if_icmp .ge 45, 3) := by decide +kernel
theorem dX8_feed_46 : decode cX8_feed 46 = .ok (.aload_n 0, 1) := by decide +kernel
theorem dX8_feed_47 : decode cX8_feed 47 = .ok (.getfield 9, 3) := by decide +kernel
theorem dX8_feed_50 : decode cX8_feed 50 = .ok (.bipush 53, 2) := by decide +kernel
theorem dX8_feed_52 : decode cX8_feed 52 = .ok (.aload_n 0, 1) := by decide +kernel
theorem dX8_feed_53 : decode cX8_feed 53 = .ok (.getfield 9, 3) := by decide +kernel
theorem dX8_feed_56 : decode cX8_feed 56 = .ok (.iconst 5, 1) := by decide +kernel
theorem dX8_feed_57 : decode cX8_feed 57 = .ok (.iaload, 1) := by decide +kernel
theorem dX8_feed_58 : decode cX8_feed 58 = .ok (.iadd, 1) := by decide +kernel
theorem dX8_feed_59 : decode cX8_feed 59 = .ok (.lload_n 1, 1) := by decide +kernel
theorem dX8_feed_60 : decode cX8_feed 60 = .ok (.bipush 8, 2) := by decide +kernel
theorem dX8_feed_62 : decode cX8_feed 62 = .ok (.iload 4, 2) := by decide +kernel
theorem dX8_feed_64 : decode cX8_feed 64 = .ok (.imul, 1) := by decide +kernel
theorem dX8_feed_65 : decode cX8_feed 65 = .ok (.lshr, 1) := by decide +kernel
theorem dX8_feed_66 : decode cX8_feed 66 = .ok (.ldc2_w 103, 3) := by decide +kernel
theorem dX8_feed_69 : decode cX8_feed 69 = .ok (.land, 1) := by decide +kernel
theorem dX8_feed_70 : decode cX8_feed 70 = .ok (.l2i, 1) := by decide +kernel
theorem dX8_feed_71 : decode cX8_feed 71 = .ok (.iastore, 1) := by decide +kernel
theorem dX8_feed_72 : decode cX8_feed 72 = .ok (.aload_n 0, 1) := by decide +kernel
theorem dX8_feed_73 : decode cX8_feed 73 = .ok (.getfield 9, 3) := by decide +kernel
theorem dX8_feed_76 : decode cX8_feed 76 = .ok (.iconst 5, 1) := by decide +kernel
theorem dX8_feed_77 : decode cX8_feed 77 = .ok (.dup2, 1) := by decide +kernel
theorem dX8_feed_78 : decode cX8_feed 78 = .ok (.iaload, 1) := by decide +kernel
theorem dX8_feed_79 : decode cX8_feed 79 = .ok (.iconst 1, 1) := by decide +kernel
theorem dX8_feed_80 : decode cX8_feed 80 = .ok (.iadd, 1) := by decide +kernel
theorem dX8_feed_81 : decode cX8_feed 81 = .ok (.iastore, 1) := by decide +kernel
theorem dX8_feed_82 : decode cX8_feed 82 = .ok (.iinc 4 1, 3) := by decide +kernel
theorem dX8_feed_85 : decode cX8_feed 85 = .ok (.goto (-45), 3) := by decide +kernel
theorem dX8_feed_88 : decode cX8_feed 88 = .ok (.aload_n 0, 1) := by decide +kernel
theorem dX8_feed_89 : decode cX8_feed 89 = .ok (.getfield 9, 3) := by decide +kernel
theorem dX8_feed_92 : decode cX8_feed 92 = .ok (.iconst 5, 1) := by decide +kernel
theorem dX8_feed_93 : decode cX8_feed 93 = .ok (.iaload, 1) := by decide +kernel
theorem dX8_feed_94 : decode cX8_feed 94 = .ok (.ireturn, 1) := by decide +kernel
theorem dX8_look_0 : decode cX8_look 0 = .ok (.aload_n 0, 1) := by decide +kernel
theorem dX8_look_1 : decode cX8_look 1 = .ok (.getfield 105, 3) := by decide +kernel
theorem dX8_look_4 : decode cX8_look 4 = .ok (.aload_n 0, 1) := by decide +kernel
theorem dX8_look_5 : decode cX8_look 5 = .ok (.getfield 9, 3) := by decide +kernel
theorem dX8_look_8 : decode cX8_look 8 = .ok (.iconst 5, 1) := by decide +kernel
theorem dX8_look_9 : decode cX8_look 9 = .ok (.iaload, 1) := by decide +kernel
theorem dX8_look_10 : decode cX8_look 10 = .ok (.if_icmp .ge 18, 3) := by decide +kernel
theorem dX8_look_13 : decode cX8_look 13 = .ok (.aload_n 0, 1) := by decide +kernel
theorem dX8_look_14 : decode cX8_look 14 = .ok (.getfield 9, 3) := by decide +kernel
theorem dX8_look_17 : decode cX8_look 17 = .ok (.bipush 53, 2) := by decide +kernel
theorem dX8_look_19 : decode cX8_look 19 = .ok (.aload_n 0, 1) := by decide +kernel
theorem dX8_look_20 : decode cX8_look 20 = .ok (.getfield 105, 3) := by decide +kernel
theorem dX8_look_23 : decode cX8_look 23 = .ok (.iadd, 1) := by decide +kernel
theorem dX8_look_24 : decode cX8_look 24 = .ok (.iaload, 1) := by decide +kernel
theorem dX8_look_25 : decode cX8_look 25 = .ok (.goto 4, 3) := by decide +kernel
theorem dX8_look_28 : decode cX8_look 28 = .ok (.iconst (-1), 1) := by decide +kernel
theorem dX8_look_29 : decode cX8_look 29 = .ok (.ireturn, 1) := by decide +kernel
theorem dX8_step_0 : decode cX8_step 0 = .ok (.aload_n 0, 1) := by decide +kernel
theorem dX8_step_1 : decode cX8_step 1 = .ok (.getfield 109, 3) := by decide +kernel
theorem dX8_step_4 : decode cX8_step 4 = .ok (.aload_n 0, 1) := by decide +kernel
theorem dX8_step_5 : decode cX8_step 5 = .ok (.getfield 31, 3) := by decide +kernel
theorem dX8_step_8 : decode cX8_step 8 = .ok (.arraylength, 1) := by decide +kernel
theorem dX8_step_9 : decode cX8_step 9 = .ok (.if_icmp .ge 33, 3) := by decide +kernel
theorem dX8_step_12 : decode cX8_step 12 = .ok (.aload_n 0, 1) := by decide +kernel
theorem dX8_step_13 : decode cX8_step 13 = .ok (.getfield 31, 3) := by decide +kernel
theorem dX8_step_16 : decode cX8_step 16 = .ok (.aload_n 0, 1) := by decide +kernel
theorem dX8_step_17 : decode cX8_step 17 = .ok (.getfield 109, 3) := by decide +kernel
theorem dX8_step_20 : decode cX8_step 20 = .ok (.iload_n 1, 1) := by decide +kernel
theorem dX8_step_21 : decode cX8_step 21 = .ok (.iastore, 1) := by decide +kernel
theorem dX8_step_22 : decode cX8_step 22 = .ok (.aload_n 0, 1) := by decide +kernel
theorem dX8_step_23 : decode cX8_step 23 = .ok (.getfield 34, 3) := by decide +kernel
theorem dX8_step_26 : decode cX8_step 26 = .ok (.aload_n 0, 1) := by decide +kernel
theorem dX8_step_27 : decode cX8_step 27 = .ok (.getfield 109, 3) := by decide +kernel
theorem dX8_step_30 : decode cX8_step 30 = .ok (.iload_n 2, 1) := by decide +kernel
theorem dX8_step_31 : decode cX8_step 31 = .ok (.iastore, 1) := by decide +kernel
theorem dX8_step_32 : decode cX8_step 32 = .ok (.aload_n 0, 1) := by decide +kernel
theorem dX8_step_33 : decode cX8_step 33 = .ok (.dup, 1) := by decide +kernel
theorem dX8_step_34 : decode cX8_step 34 = .ok (.getfield 109, 3) := by decide +kernel
theorem dX8_step_37 : decode cX8_step 37 = .ok (.iconst 1, 1) := by decide +kernel
theorem dX8_step_38 : decode cX8_step 38 = .ok (.iadd, 1) := by decide +kernel
theorem dX8_step_39 : decode cX8_step 39 = .ok (.putfield 109, 3) := by decide +kernel
theorem dX8_step_42 : decode cX8_step 42 = .ok (.return_, 1) := by decide +kernel
theorem dX8_nameOf_0 : decode cX8_nameOf 0 = .ok (.iload_n 1, 1) := by decide +kernel
theorem dX8_nameOf_1 : decode cX8_nameOf 1 = .ok (.tableswitch 119 100 110 #[59, 119, 59, 119, 119, 119, 119, 106, 119, 82, 82], 59) := by decide +kernel
theorem dX8_nameOf_60 : decode cX8_nameOf 60 = .ok (.aload_n 0, 1) := by decide +kernel
theorem dX8_nameOf_61 : decode cX8_nameOf 61 = .ok (.getfield 112, 3) := by decide +kernel
theorem dX8_nameOf_64 : decode cX8_nameOf 64 = .ok (.ifCond .eq 7, 3) := by decide +kernel
theorem dX8_nameOf_67 : decode cX8_nameOf 67 = .ok (.iconst (-1), 1) := by decide +kernel
theorem dX8_nameOf_68 : decode cX8_nameOf 68 = .ok (.goto 14, 3) := by decide +kernel
theorem dX8_nameOf_71 : decode cX8_nameOf 71 = .ok (.iload_n 1, 1) := by decide +kernel
theorem dX8_nameOf_72 : decode cX8_nameOf 72 = .ok (.bipush 102, 2) := by decide +kernel
theorem dX8_nameOf_74 : decode cX8_nameOf 74 = .ok (.if_icmp .ne 7, 3) := by decide +kernel
theorem dX8_nameOf_77 : decode cX8_nameOf 77 = .ok (.iconst 0, 1) := by decide +kernel
theorem dX8_nameOf_78 : decode cX8_nameOf 78 = .ok (.goto 4, 3) := by decide +kernel
theorem dX8_nameOf_81 : decode cX8_nameOf 81 = .ok (.iconst 1, 1) := by decide +kernel
theorem dX8_nameOf_82 : decode cX8_nameOf 82 = .ok (.ireturn, 1) := by decide +kernel
theorem dX8_nameOf_83 : decode cX8_nameOf 83 = .ok (.aload_n 0, 1) := by decide +kernel
theorem dX8_nameOf_84 : decode cX8_nameOf 84 = .ok (.getfield 112, 3) := by decide +kernel
theorem dX8_nameOf_87 : decode cX8_nameOf 87 = .ok (.iconst 1, 1) := by decide +kernel
theorem dX8_nameOf_88 : decode cX8_nameOf 88 = .ok (.if_icmp .eq 7, 3) := by decide +kernel
theorem dX8_nameOf_91 : decode cX8_nameOf 91 = .ok (.iconst (-1), 1) := by decide +kernel
theorem dX8_nameOf_92 : decode cX8_nameOf 92 = .ok (.goto 14, 3) := by decide +kernel
theorem dX8_nameOf_95 : decode cX8_nameOf 95 = .ok (.iload_n 1, 1) := by decide +kernel
theorem dX8_nameOf_96 : decode cX8_nameOf 96 = .ok (.bipush 110, 2) := by decide +kernel
theorem dX8_nameOf_98 : decode cX8_nameOf 98 = .ok (.if_icmp .ne 7, 3) := by decide +kernel
theorem dX8_nameOf_101 : decode cX8_nameOf 101 = .ok (.iconst 0, 1) := by decide +kernel
theorem dX8_nameOf_102 : decode cX8_nameOf 102 = .ok (.goto 4, 3) := by decide +kernel
theorem dX8_nameOf_105 : decode cX8_nameOf 105 = .ok (.iconst 2, 1) := by decide +kernel
theorem dX8_nameOf_106 : decode cX8_nameOf 106 = .ok (.ireturn, 1) := by decide +kernel
theorem dX8_nameOf_107 : decode cX8_nameOf 107 = .ok (.aload_n 0, 1) := by decide +kernel
theorem dX8_nameOf_108 : decode cX8_nameOf 108 = .ok (.getfield 112, 3) := by decide +kernel
theorem dX8_nameOf_111 : decode cX8_nameOf 111 = .ok (.ifCond .ne 7, 3) := by decide +kernel
theorem dX8_nameOf_114 : decode cX8_nameOf 114 = .ok (.iconst 2, 1) := by decide +kernel
theorem dX8_nameOf_115 : decode cX8_nameOf 115 = .ok (.goto 4, 3) := by decide +kernel
theorem dX8_nameOf_118 : decode cX8_nameOf 118 = .ok (.iconst 1, 1) := by decide +kernel
theorem dX8_nameOf_119 : decode cX8_nameOf 119 = .ok (.ireturn, 1) := by decide +kernel
theorem dX8_nameOf_120 : decode cX8_nameOf 120 = .ok (.iconst (-1), 1) := by decide +kernel
theorem dX8_nameOf_121 : decode cX8_nameOf 121 = .ok (.ireturn, 1) := by decide +kernel
theorem dX8_number_0 : decode cX8_number 0 = .ok (.iconst 0, 1) := by decide +kernel
theorem dX8_number_1 : decode cX8_number 1 = .ok (.istore_n 1, 1) := by decide +kernel
theorem dX8_number_2 : decode cX8_number 2 = .ok (.iconst 0, 1) := by decide +kernel
theorem dX8_number_3 : decode cX8_number 3 = .ok (.istore_n 2, 1) := by decide +kernel
theorem dX8_number_4 : decode cX8_number 4 = .ok (.iload_n 2, 1) := by decide +kernel
theorem dX8_number_5 : decode cX8_number 5 = .ok (.iconst 4, 1) := by decide +kernel
theorem dX8_number_6 : decode cX8_number 6 = .ok (.if_icmp .ge 46, 3) := by decide +kernel
theorem dX8_number_9 : decode cX8_number 9 = .ok (.aload_n 0, 1) := by decide +kernel
theorem dX8_number_10 : decode cX8_number 10 = .ok (.invokevirtual 115, 3) := by decide +kernel
theorem dX8_number_13 : decode cX8_number 13 = .ok (.bipush 48, 2) := by decide +kernel
theorem dX8_number_15 : decode cX8_number 15 = .ok (.bipush 57, 2) := by decide +kernel
theorem dX8_number_17 : decode cX8_number 17 = .ok (.invokestatic 57, 3) := by decide +kernel
theorem dX8_number_20 : decode cX8_number 20 = .ok (.ifCond .eq 32, 3) := by decide +kernel
theorem dX8_number_23 : decode cX8_number 23 = .ok (.bipush 10, 2) := by decide +kernel
theorem dX8_number_25 : decode cX8_number 25 = .ok (.iload_n 1, 1) := by decide +kernel
theorem dX8_number_26 : decode cX8_number 26 = .ok (.imul, 1) := by decide +kernel
theorem dX8_number_27 : decode cX8_number 27 = .ok (.aload_n 0, 1) := by decide +kernel
theorem dX8_number_28 : decode cX8_number 28 = .ok (.invokevirtual 115, 3) := by decide +kernel
theorem dX8_number_31 : decode cX8_number 31 = .ok (.iadd, 1) := by decide +kernel
theorem dX8_number_32 : decode cX8_number 32 = .ok (.bipush 48, 2) := by decide +kernel
theorem dX8_number_34 : decode cX8_number 34 = .ok (.isub, 1) := by decide +kernel
theorem dX8_number_35 : decode cX8_number 35 = .ok (.istore_n 1, 1) := by decide +kernel
theorem dX8_number_36 : decode cX8_number 36 = .ok (.aload_n 0, 1) := by decide +kernel
theorem dX8_number_37 : decode cX8_number 37 = .ok (.dup, 1) := by decide +kernel
theorem dX8_number_38 : decode cX8_number 38 = .ok (.getfield 105, 3) := by decide +kernel
theorem dX8_number_41 : decode cX8_number 41 = .ok (.iconst 1, 1) := by decide +kernel
theorem dX8_number_42 : decode cX8_number 42 = .ok (.iadd, 1) := by decide +kernel
theorem dX8_number_43 : decode cX8_number 43 = .ok (.putfield 105, 3) := by decide +kernel
theorem dX8_number_46 : decode cX8_number 46 = .ok (.iinc 2 1, 3) := by decide +kernel
theorem dX8_number_49 : decode cX8_number 49 = .ok (.goto (-45), 3) := by decide +kernel
theorem dX8_number_52 : decode cX8_number 52 = .ok (.aload_n 0, 1) := by decide +kernel
theorem dX8_number_53 : decode cX8_number 53 = .ok (.iload_n 2, 1) := by decide +kernel
theorem dX8_number_54 : decode cX8_number 54 = .ok (.ifCond .ne 7, 3) := by decide +kernel
theorem dX8_number_57 : decode cX8_number 57 = .ok (.iconst 1, 1) := by decide +kernel
theorem dX8_number_58 : decode cX8_number 58 = .ok (.goto 4, 3) := by decide +kernel
theorem dX8_number_61 : decode cX8_number 61 = .ok (.iconst 0, 1) := by decide +kernel
theorem dX8_number_62 : decode cX8_number 62 = .ok (.putfield 119, 3) := by decide +kernel
theorem dX8_number_65 : decode cX8_number 65 = .ok (.aload_n 0, 1) := by decide +kernel
theorem dX8_number_66 : decode cX8_number 66 = .ok (.iconst 1, 1) := by decide +kernel
theorem dX8_number_67 : decode cX8_number 67 = .ok (.iload_n 1, 1) := by decide +kernel
theorem dX8_number_68 : decode cX8_number 68 = .ok (.invokevirtual 123, 3) := by decide +kernel
theorem dX8_number_71 : decode cX8_number 71 = .ok (.return_, 1) := by decide +kernel
theorem dX8_opens_0 : decode cX8_opens 0 = .ok (.aload_n 0, 1) := by decide +kernel
theorem dX8_opens_1 : decode cX8_opens 1 = .ok (.getfield 127, 3) := by decide +kernel
theorem dX8_opens_4 : decode cX8_opens 4 = .ok (.iconst 5, 1) := by decide +kernel
theorem dX8_opens_5 : decode cX8_opens 5 = .ok (.if_icmp .ne 9, 3) := by decide +kernel
theorem dX8_opens_8 : decode cX8_opens 8 = .ok (.aload_n 0, 1) := by decide +kernel
theorem dX8_opens_9 : decode cX8_opens 9 = .ok (.iconst 1, 1) := by decide +kernel
theorem dX8_opens_10 : decode cX8_opens 10 = .ok (.putfield 119, 3) := by decide +kernel
theorem dX8_opens_13 : decode cX8_opens 13 = .ok (.return_, 1) := by decide +kernel
theorem dX8_opens_14 : decode cX8_opens 14 = .ok (.aload_n 0, 1) := by decide +kernel
theorem dX8_opens_15 : decode cX8_opens 15 = .ok (.dup, 1) := by decide +kernel
theorem dX8_opens_16 : decode cX8_opens 16 = .ok (.getfield 127, 3) := by decide +kernel
theorem dX8_opens_19 : decode cX8_opens 19 = .ok (.iconst 1, 1) := by decide +kernel
theorem dX8_opens_20 : decode cX8_opens 20 = .ok (.iadd, 1) := by decide +kernel
theorem dX8_opens_21 : decode cX8_opens 21 = .ok (.putfield 127, 3) := by decide +kernel
theorem dX8_opens_24 : decode cX8_opens 24 = .ok (.aload_n 0, 1) := by decide +kernel
theorem dX8_opens_25 : decode cX8_opens 25 = .ok (.dup, 1) := by decide +kernel
theorem dX8_opens_26 : decode cX8_opens 26 = .ok (.getfield 105, 3) := by decide +kernel
theorem dX8_opens_29 : decode cX8_opens 29 = .ok (.iconst 1, 1) := by decide +kernel
theorem dX8_opens_30 : decode cX8_opens 30 = .ok (.iadd, 1) := by decide +kernel
theorem dX8_opens_31 : decode cX8_opens 31 = .ok (.putfield 105, 3) := by decide +kernel
theorem dX8_opens_34 : decode cX8_opens 34 = .ok (.iload_n 1, 1) := by decide +kernel
theorem dX8_opens_35 : decode cX8_opens 35 = .ok (.bipush 33, 2) := by decide +kernel
theorem dX8_opens_37 : decode cX8_opens 37 = .ok (.if_icmp .ne 16, 3) := by decide +kernel
theorem dX8_opens_40 : decode cX8_opens 40 = .ok (.aload_n 0, 1) := by decide +kernel
theorem dX8_opens_41 : decode cX8_opens 41 = .ok (.invokevirtual 130, 3) := by decide +kernel
theorem dX8_opens_44 : decode cX8_opens 44 = .ok (.aload_n 0, 1) := by decide +kernel
theorem dX8_opens_45 : decode cX8_opens 45 = .ok (.iconst 3, 1) := by decide +kernel
theorem dX8_opens_46 : decode cX8_opens 46 = .ok (.iconst 0, 1) := by decide +kernel
theorem dX8_opens_47 : decode cX8_opens 47 = .ok (.invokevirtual 123, 3) := by decide +kernel
theorem dX8_opens_50 : decode cX8_opens 50 = .ok (.goto 53, 3) := by decide +kernel
theorem dX8_opens_53 : decode cX8_opens 53 = .ok (.aload_n 0, 1) := by decide +kernel
theorem dX8_opens_54 : decode cX8_opens 54 = .ok (.invokevirtual 133, 3) := by decide +kernel
theorem dX8_opens_57 : decode cX8_opens 57 = .ok (.aload_n 0, 1) := by decide +kernel
theorem dX8_opens_58 : decode cX8_opens 58 = .ok (.aload_n 0, 1) := by decide +kernel
theorem dX8_opens_59 : decode cX8_opens 59 = .ok (.getfield 119, 3) := by decide +kernel
theorem dX8_opens_62 : decode cX8_opens 62 = .ok (.ifCond .ne 12, 3) := by decide +kernel
theorem dX8_opens_65 : decode cX8_opens 65 = .ok (.aload_n 0, 1) := by decide +kernel
theorem dX8_opens_66 : decode cX8_opens 66 = .ok (.invokevirtual 115, 3) := by decide +kernel
theorem dX8_opens_69 : decode cX8_opens 69 = .ok (.bipush 41, 2) := by decide +kernel
theorem dX8_opens_71 : decode cX8_opens 71 = .ok (.if_icmp .eq 7, 3) := by decide +kernel
theorem dX8_opens_74 : decode cX8_opens 74 = .ok (.iconst 1, 1) := by decide +kernel
theorem dX8_opens_75 : decode cX8_opens 75 = .ok (.goto 4, 3) := by decide +kernel
theorem dX8_opens_78 : decode cX8_opens 78 = .ok (.iconst 0, 1) := by decide +kernel
theorem dX8_opens_79 : decode cX8_opens 79 = .ok (.putfield 119, 3) := by decide +kernel
theorem dX8_opens_82 : decode cX8_opens 82 = .ok (.aload_n 0, 1) := by decide +kernel
theorem dX8_opens_83 : decode cX8_opens 83 = .ok (.dup, 1) := by decide +kernel
theorem dX8_opens_84 : decode cX8_opens 84 = .ok (.getfield 105, 3) := by decide +kernel
theorem dX8_opens_87 : decode cX8_opens 87 = .ok (.aload_n 0, 1) := by decide +kernel
theorem dX8_opens_88 : decode cX8_opens 88 = .ok (.getfield 119, 3) := by decide +kernel
theorem dX8_opens_91 : decode cX8_opens 91 = .ok (.ifCond .eq 7, 3) := by decide +kernel
theorem dX8_opens_94 : decode cX8_opens 94 = .ok (.iconst 0, 1) := by decide +kernel
theorem dX8_opens_95 : decode cX8_opens 95 = .ok (.goto 4, 3) := by decide +kernel
theorem dX8_opens_98 : decode cX8_opens 98 = .ok (.iconst 1, 1) := by decide +kernel
theorem dX8_opens_99 : decode cX8_opens 99 = .ok (.iadd, 1) := by decide +kernel
theorem dX8_opens_100 : decode cX8_opens 100 = .ok (.putfield 105, 3) := by decide +kernel
theorem dX8_opens_103 : decode cX8_opens 103 = .ok (.aload_n 0, 1) := by decide +kernel
theorem dX8_opens_104 : decode cX8_opens 104 = .ok (.dup, 1) := by decide +kernel
theorem dX8_opens_105 : decode cX8_opens 105 = .ok (.getfield 127, 3) := by decide +kernel
theorem dX8_opens_108 : decode cX8_opens 108 = .ok (.iconst 1, 1) := by decide +kernel
theorem dX8_opens_109 : decode cX8_opens 109 = .ok (.isub, 1) := by decide +kernel
theorem dX8_opens_110 : decode cX8_opens 110 = .ok (.putfield 127, 3) := by decide +kernel
theorem dX8_opens_113 : decode cX8_opens 113 = .ok (.return_, 1) := by decide +kernel
theorem dX8_one_0 : decode cX8_one 0 = .ok (.aload_n 0, 1) := by decide +kernel
theorem dX8_one_1 : decode cX8_one 1 = .ok (.invokevirtual 115, 3) := by decide +kernel
theorem dX8_one_4 : decode cX8_one 4 = .ok (.istore_n 1, 1) := by decide +kernel
theorem dX8_one_5 : decode cX8_one 5 = .ok (.aload_n 0, 1) := by decide +kernel
theorem dX8_one_6 : decode cX8_one 6 = .ok (.iload_n 1, 1) := by decide +kernel
theorem dX8_one_7 : decode cX8_one 7 = .ok (.invokevirtual 136, 3) := by decide +kernel
theorem dX8_one_10 : decode cX8_one 10 = .ok (.istore_n 2, 1) := by decide +kernel
theorem dX8_one_11 : decode cX8_one 11 = .ok (.iload_n 2, 1) := by decide +kernel
theorem dX8_one_12 : decode cX8_one 12 = .ok (.ifCond .lt 22, 3) := by decide +kernel
theorem dX8_one_15 : decode cX8_one 15 = .ok (.aload_n 0, 1) := by decide +kernel
theorem dX8_one_16 : decode cX8_one 16 = .ok (.dup, 1) := by decide +kernel
theorem dX8_one_17 : decode cX8_one 17 = .ok (.getfield 105, 3) := by decide +kernel
theorem dX8_one_20 : decode cX8_one 20 = .ok (.iconst 1, 1) := by decide +kernel
theorem dX8_one_21 : decode cX8_one 21 = .ok (.iadd, 1) := by decide +kernel
theorem dX8_one_22 : decode cX8_one 22 = .ok (.putfield 105, 3) := by decide +kernel
theorem dX8_one_25 : decode cX8_one 25 = .ok (.aload_n 0, 1) := by decide +kernel
theorem dX8_one_26 : decode cX8_one 26 = .ok (.iconst 2, 1) := by decide +kernel
theorem dX8_one_27 : decode cX8_one 27 = .ok (.iload_n 2, 1) := by decide +kernel
theorem dX8_one_28 : decode cX8_one 28 = .ok (.invokevirtual 123, 3) := by decide +kernel
theorem dX8_one_31 : decode cX8_one 31 = .ok (.goto 27, 3) := by decide +kernel
theorem dX8_one_34 : decode cX8_one 34 = .ok (.iload_n 1, 1) := by decide +kernel
theorem dX8_one_35 : decode cX8_one 35 = .ok (.bipush 33, 2) := by decide +kernel
theorem dX8_one_37 : decode cX8_one 37 = .ok (.if_icmp .eq 9, 3) := by decide +kernel
theorem dX8_one_40 : decode cX8_one 40 = .ok (.iload_n 1, 1) := by decide +kernel
theorem dX8_one_41 : decode cX8_one 41 = .ok (.bipush 40, 2) := by decide +kernel
theorem dX8_one_43 : decode cX8_one 43 = .ok (.if_icmp .ne 11, 3) := by decide +kernel
theorem dX8_one_46 : decode cX8_one 46 = .ok (.aload_n 0, 1) := by decide +kernel
theorem dX8_one_47 : decode cX8_one 47 = .ok (.iload_n 1, 1) := by decide +kernel
theorem dX8_one_48 : decode cX8_one 48 = .ok (.invokevirtual 139, 3) := by decide +kernel
theorem dX8_one_51 : decode cX8_one 51 = .ok (.goto 7, 3) := by decide +kernel
theorem dX8_one_54 : decode cX8_one 54 = .ok (.aload_n 0, 1) := by decide +kernel
theorem dX8_one_55 : decode cX8_one 55 = .ok (.invokevirtual 142, 3) := by decide +kernel
theorem dX8_one_58 : decode cX8_one 58 = .ok (.return_, 1) := by decide +kernel
theorem dX8_times_0 : decode cX8_times 0 = .ok (.aload_n 0, 1) := by decide +kernel
theorem dX8_times_1 : decode cX8_times 1 = .ok (.invokevirtual 130, 3) := by decide +kernel
theorem dX8_times_4 : decode cX8_times 4 = .ok (.aload_n 0, 1) := by decide +kernel
theorem dX8_times_5 : decode cX8_times 5 = .ok (.getfield 119, 3) := by decide +kernel
theorem dX8_times_8 : decode cX8_times 8 = .ok (.ifCond .ne 58, 3) := by decide +kernel
theorem dX8_times_11 : decode cX8_times 11 = .ok (.aload_n 0, 1) := by decide +kernel
theorem dX8_times_12 : decode cX8_times 12 = .ok (.invokevirtual 115, 3) := by decide +kernel
theorem dX8_times_15 : decode cX8_times 15 = .ok (.bipush 42, 2) := by decide +kernel
theorem dX8_times_17 : decode cX8_times 17 = .ok (.if_icmp .eq 21, 3) := by decide +kernel
theorem dX8_times_20 : decode cX8_times 20 = .ok (.aload_n 0, 1) := by decide +kernel
theorem dX8_times_21 : decode cX8_times 21 = .ok (.invokevirtual 115, 3) := by decide +kernel
theorem dX8_times_24 : decode cX8_times 24 = .ok (.bipush 47, 2) := by decide +kernel
theorem dX8_times_26 : decode cX8_times 26 = .ok (.if_icmp .eq 12, 3) := by decide +kernel
theorem dX8_times_29 : decode cX8_times 29 = .ok (.aload_n 0, 1) := by decide +kernel
theorem dX8_times_30 : decode cX8_times 30 = .ok (.invokevirtual 115, 3) := by decide +kernel
theorem dX8_times_33 : decode cX8_times 33 = .ok (.bipush 37, 2) := by decide +kernel
theorem dX8_times_35 : decode cX8_times 35 = .ok (.if_icmp .ne 31, 3) := by decide +kernel
theorem dX8_times_38 : decode cX8_times 38 = .ok (.aload_n 0, 1) := by decide +kernel
theorem dX8_times_39 : decode cX8_times 39 = .ok (.invokevirtual 115, 3) := by decide +kernel
theorem dX8_times_42 : decode cX8_times 42 = .ok (.istore_n 1, 1) := by decide +kernel
theorem dX8_times_43 : decode cX8_times 43 = .ok (.aload_n 0, 1) := by decide +kernel
theorem dX8_times_44 : decode cX8_times 44 = .ok (.dup, 1) := by decide +kernel
theorem dX8_times_45 : decode cX8_times 45 = .ok (.getfield 105, 3) := by decide +kernel
theorem dX8_times_48 : decode cX8_times 48 = .ok (.iconst 1, 1) := by decide +kernel
theorem dX8_times_49 : decode cX8_times 49 = .ok (.iadd, 1) := by decide +kernel
theorem dX8_times_50 : decode cX8_times 50 = .ok (.putfield 105, 3) := by decide +kernel
theorem dX8_times_53 : decode cX8_times 53 = .ok (.aload_n 0, 1) := by decide +kernel
theorem dX8_times_54 : decode cX8_times 54 = .ok (.invokevirtual 130, 3) := by decide +kernel
theorem dX8_times_57 : decode cX8_times 57 = .ok (.aload_n 0, 1) := by decide +kernel
theorem dX8_times_58 : decode cX8_times 58 = .ok (.iload_n 1, 1) := by decide +kernel
theorem dX8_times_59 : decode cX8_times 59 = .ok (.iconst 0, 1) := by decide +kernel
theorem dX8_times_60 : decode cX8_times 60 = .ok (.invokevirtual 123, 3) := by decide +kernel
theorem dX8_times_63 : decode cX8_times 63 = .ok (.goto (-59), 3) := by decide +kernel
theorem dX8_times_66 : decode cX8_times 66 = .ok (.return_, 1) := by decide +kernel
theorem dX8_sum_0 : decode cX8_sum 0 = .ok (.aload_n 0, 1) := by decide +kernel
theorem dX8_sum_1 : decode cX8_sum 1 = .ok (.invokevirtual 145, 3) := by decide +kernel
theorem dX8_sum_4 : decode cX8_sum 4 = .ok (.aload_n 0, 1) := by decide +kernel
theorem dX8_sum_5 : decode cX8_sum 5 = .ok (.getfield 119, 3) := by decide +kernel
theorem dX8_sum_8 : decode cX8_sum 8 = .ok (.ifCond .ne 49, 3) := by decide +kernel
theorem dX8_sum_11 : decode cX8_sum 11 = .ok (.aload_n 0, 1) := by decide +kernel
theorem dX8_sum_12 : decode cX8_sum 12 = .ok (.invokevirtual 115, 3) := by decide +kernel
theorem dX8_sum_15 : decode cX8_sum 15 = .ok (.bipush 43, 2) := by decide +kernel
theorem dX8_sum_17 : decode cX8_sum 17 = .ok (.if_icmp .eq 12, 3) := by decide +kernel
theorem dX8_sum_20 : decode cX8_sum 20 = .ok (.aload_n 0, 1) := by decide +kernel
theorem dX8_sum_21 : decode cX8_sum 21 = .ok (.invokevirtual 115, 3) := by decide +kernel
theorem dX8_sum_24 : decode cX8_sum 24 = .ok (.bipush 45, 2) := by decide +kernel
theorem dX8_sum_26 : decode cX8_sum 26 = .ok (.if_icmp .ne 31, 3) := by decide +kernel
theorem dX8_sum_29 : decode cX8_sum 29 = .ok (.aload_n 0, 1) := by decide +kernel
theorem dX8_sum_30 : decode cX8_sum 30 = .ok (.invokevirtual 115, 3) := by decide +kernel
theorem dX8_sum_33 : decode cX8_sum 33 = .ok (.istore_n 1, 1) := by decide +kernel
theorem dX8_sum_34 : decode cX8_sum 34 = .ok (.aload_n 0, 1) := by decide +kernel
theorem dX8_sum_35 : decode cX8_sum 35 = .ok (.dup, 1) := by decide +kernel
theorem dX8_sum_36 : decode cX8_sum 36 = .ok (.getfield 105, 3) := by decide +kernel
theorem dX8_sum_39 : decode cX8_sum 39 = .ok (.iconst 1, 1) := by decide +kernel
theorem dX8_sum_40 : decode cX8_sum 40 = .ok (.iadd, 1) := by decide +kernel
theorem dX8_sum_41 : decode cX8_sum 41 = .ok (.putfield 105, 3) := by decide +kernel
theorem dX8_sum_44 : decode cX8_sum 44 = .ok (.aload_n 0, 1) := by decide +kernel
theorem dX8_sum_45 : decode cX8_sum 45 = .ok (.invokevirtual 145, 3) := by decide +kernel
theorem dX8_sum_48 : decode cX8_sum 48 = .ok (.aload_n 0, 1) := by decide +kernel
theorem dX8_sum_49 : decode cX8_sum 49 = .ok (.iload_n 1, 1) := by decide +kernel
theorem dX8_sum_50 : decode cX8_sum 50 = .ok (.iconst 0, 1) := by decide +kernel
theorem dX8_sum_51 : decode cX8_sum 51 = .ok (.invokevirtual 123, 3) := by decide +kernel
theorem dX8_sum_54 : decode cX8_sum 54 = .ok (.goto (-50), 3) := by decide +kernel
theorem dX8_sum_57 : decode cX8_sum 57 = .ok (.return_, 1) := by decide +kernel
theorem dX8_compares_0 : decode cX8_compares 0 = .ok (.aload_n 0, 1) := by decide +kernel
theorem dX8_compares_1 : decode cX8_compares 1 = .ok (.invokevirtual 148, 3) := by decide +kernel
theorem dX8_compares_4 : decode cX8_compares 4 = .ok (.aload_n 0, 1) := by decide +kernel
theorem dX8_compares_5 : decode cX8_compares 5 = .ok (.invokevirtual 115, 3) := by decide +kernel
theorem dX8_compares_8 : decode cX8_compares 8 = .ok (.istore_n 1, 1) := by decide +kernel
theorem dX8_compares_9 : decode cX8_compares 9 = .ok (.aload_n 0, 1) := by decide +kernel
theorem dX8_compares_10 : decode cX8_compares 10 = .ok (.getfield 119, 3) := by decide +kernel
theorem dX8_compares_13 : decode cX8_compares 13 = .ok (.ifCond .ne 41, 3) := by decide +kernel
theorem dX8_compares_16 : decode cX8_compares 16 = .ok (.iload_n 1, 1) := by decide +kernel
theorem dX8_compares_17 : decode cX8_compares 17 = .ok (.bipush 60, 2) := by decide +kernel
theorem dX8_compares_19 : decode cX8_compares 19 = .ok (.if_icmp .eq 15, 3) := by decide +kernel
theorem dX8_compares_22 : decode cX8_compares 22 = .ok (.iload_n 1, 1) := by decide +kernel
theorem dX8_compares_23 : decode cX8_compares 23 = .ok (.bipush 61, 2) := by decide +kernel
theorem dX8_compares_25 : decode cX8_compares 25 = .ok (.if_icmp .eq 9, 3) := by decide +kernel
theorem dX8_compares_28 : decode cX8_compares 28 = .ok (.iload_n 1, 1) := by decide +kernel
theorem dX8_compares_29 : decode cX8_compares 29 = .ok (.bipush 62, 2) := by decide +kernel
theorem dX8_compares_31 : decode cX8_compares 31 = .ok (.if_icmp .ne 23, 3) := by decide +kernel
theorem dX8_compares_34 : decode cX8_compares 34 = .ok (.aload_n 0, 1) := by decide +kernel
theorem dX8_compares_35 : decode cX8_compares 35 = .ok (.dup, 1) := by decide +kernel
theorem dX8_compares_36 : decode cX8_compares 36 = .ok (.getfield 105, 3) := by decide +kernel
theorem dX8_compares_39 : decode cX8_compares 39 = .ok (.iconst 1, 1) := by decide +kernel
theorem dX8_compares_40 : decode cX8_compares 40 = .ok (.iadd, 1) := by decide +kernel
theorem dX8_compares_41 : decode cX8_compares 41 = .ok (.putfield 105, 3) := by decide +kernel
theorem dX8_compares_44 : decode cX8_compares 44 = .ok (.aload_n 0, 1) := by decide +kernel
theorem dX8_compares_45 : decode cX8_compares 45 = .ok (.invokevirtual 148, 3) := by decide +kernel
theorem dX8_compares_48 : decode cX8_compares 48 = .ok (.aload_n 0, 1) := by decide +kernel
theorem dX8_compares_49 : decode cX8_compares 49 = .ok (.iload_n 1, 1) := by decide +kernel
theorem dX8_compares_50 : decode cX8_compares 50 = .ok (.iconst 0, 1) := by decide +kernel
theorem dX8_compares_51 : decode cX8_compares 51 = .ok (.invokevirtual 123, 3) := by decide +kernel
theorem dX8_compares_54 : decode cX8_compares 54 = .ok (.return_, 1) := by decide +kernel
theorem dX8_all_0 : decode cX8_all 0 = .ok (.aload_n 0, 1) := by decide +kernel
theorem dX8_all_1 : decode cX8_all 1 = .ok (.invokevirtual 151, 3) := by decide +kernel
theorem dX8_all_4 : decode cX8_all 4 = .ok (.aload_n 0, 1) := by decide +kernel
theorem dX8_all_5 : decode cX8_all 5 = .ok (.getfield 119, 3) := by decide +kernel
theorem dX8_all_8 : decode cX8_all 8 = .ok (.ifCond .ne 36, 3) := by decide +kernel
theorem dX8_all_11 : decode cX8_all 11 = .ok (.aload_n 0, 1) := by decide +kernel
theorem dX8_all_12 : decode cX8_all 12 = .ok (.invokevirtual 115, 3) := by decide +kernel
theorem dX8_all_15 : decode cX8_all 15 = .ok (.bipush 38, 2) := by decide +kernel
theorem dX8_all_17 : decode cX8_all 17 = .ok (.if_icmp .ne 27, 3) := by decide +kernel
theorem dX8_all_20 : decode cX8_all 20 = .ok (.aload_n 0, 1) := by decide +kernel
theorem dX8_all_21 : decode cX8_all 21 = .ok (.dup, 1) := by decide +kernel
theorem dX8_all_22 : decode cX8_all 22 = .ok (.getfield 105, 3) := by decide +kernel
theorem dX8_all_25 : decode cX8_all 25 = .ok (.iconst 1, 1) := by decide +kernel
theorem dX8_all_26 : decode cX8_all 26 = .ok (.iadd, 1) := by decide +kernel
theorem dX8_all_27 : decode cX8_all 27 = .ok (.putfield 105, 3) := by decide +kernel
theorem dX8_all_30 : decode cX8_all 30 = .ok (.aload_n 0, 1) := by decide +kernel
theorem dX8_all_31 : decode cX8_all 31 = .ok (.invokevirtual 151, 3) := by decide +kernel
theorem dX8_all_34 : decode cX8_all 34 = .ok (.aload_n 0, 1) := by decide +kernel
theorem dX8_all_35 : decode cX8_all 35 = .ok (.bipush 38, 2) := by decide +kernel
theorem dX8_all_37 : decode cX8_all 37 = .ok (.iconst 0, 1) := by decide +kernel
theorem dX8_all_38 : decode cX8_all 38 = .ok (.invokevirtual 123, 3) := by decide +kernel
theorem dX8_all_41 : decode cX8_all 41 = .ok (.goto (-37), 3) := by decide +kernel
theorem dX8_all_44 : decode cX8_all 44 = .ok (.return_, 1) := by decide +kernel
theorem dX8_any_0 : decode cX8_any 0 = .ok (.aload_n 0, 1) := by decide +kernel
theorem dX8_any_1 : decode cX8_any 1 = .ok (.invokevirtual 154, 3) := by decide +kernel
theorem dX8_any_4 : decode cX8_any 4 = .ok (.aload_n 0, 1) := by decide +kernel
theorem dX8_any_5 : decode cX8_any 5 = .ok (.getfield 119, 3) := by decide +kernel
theorem dX8_any_8 : decode cX8_any 8 = .ok (.ifCond .ne 36, 3) := by decide +kernel
theorem dX8_any_11 : decode cX8_any 11 = .ok (.aload_n 0, 1) := by decide +kernel
theorem dX8_any_12 : decode cX8_any 12 = .ok (.invokevirtual 115, 3) := by decide +kernel
theorem dX8_any_15 : decode cX8_any 15 = .ok (.bipush 124, 2) := by decide +kernel
theorem dX8_any_17 : decode cX8_any 17 = .ok (.if_icmp .ne 27, 3) := by decide +kernel
theorem dX8_any_20 : decode cX8_any 20 = .ok (.aload_n 0, 1) := by decide +kernel
theorem dX8_any_21 : decode cX8_any 21 = .ok (.dup, 1) := by decide +kernel
theorem dX8_any_22 : decode cX8_any 22 = .ok (.getfield 105, 3) := by decide +kernel
theorem dX8_any_25 : decode cX8_any 25 = .ok (.iconst 1, 1) := by decide +kernel
theorem dX8_any_26 : decode cX8_any 26 = .ok (.iadd, 1) := by decide +kernel
theorem dX8_any_27 : decode cX8_any 27 = .ok (.putfield 105, 3) := by decide +kernel
theorem dX8_any_30 : decode cX8_any 30 = .ok (.aload_n 0, 1) := by decide +kernel
theorem dX8_any_31 : decode cX8_any 31 = .ok (.invokevirtual 154, 3) := by decide +kernel
theorem dX8_any_34 : decode cX8_any 34 = .ok (.aload_n 0, 1) := by decide +kernel
theorem dX8_any_35 : decode cX8_any 35 = .ok (.bipush 124, 2) := by decide +kernel
theorem dX8_any_37 : decode cX8_any 37 = .ok (.iconst 0, 1) := by decide +kernel
theorem dX8_any_38 : decode cX8_any 38 = .ok (.invokevirtual 123, 3) := by decide +kernel
theorem dX8_any_41 : decode cX8_any 41 = .ok (.goto (-37), 3) := by decide +kernel
theorem dX8_any_44 : decode cX8_any 44 = .ok (.return_, 1) := by decide +kernel
theorem dX8_text_0 : decode cX8_text 0 = .ok (.iload_n 1, 1) := by decide +kernel
theorem dX8_text_1 : decode cX8_text 1 = .ok (.iconst 0, 1) := by decide +kernel
theorem dX8_text_2 : decode cX8_text 2 = .ok (.iconst 1, 1) := by decide +kernel
theorem dX8_text_3 : decode cX8_text 3 = .ok (.invokestatic 57, 3) := by decide +kernel
theorem dX8_text_6 : decode cX8_text 6 = .ok (.ifCond .ne 10, 3) := by decide +kernel
theorem dX8_text_9 : decode cX8_text 9 = .ok (.aload_n 0, 1) := by decide +kernel
theorem dX8_text_10 : decode cX8_text 10 = .ok (.ldc 77, 2) := by decide +kernel
theorem dX8_text_12 : decode cX8_text 12 = .ok (.invokevirtual 78, 3) := by decide +kernel
theorem dX8_text_15 : decode cX8_text 15 = .ok (.ireturn, 1) := by decide +kernel
theorem dX8_text_16 : decode cX8_text 16 = .ok (.aload_n 0, 1) := by decide +kernel
theorem dX8_text_17 : decode cX8_text 17 = .ok (.iload_n 1, 1) := by decide +kernel
theorem dX8_text_18 : decode cX8_text 18 = .ok (.putfield 112, 3) := by decide +kernel
theorem dX8_text_21 : decode cX8_text 21 = .ok (.aload_n 0, 1) := by decide +kernel
theorem dX8_text_22 : decode cX8_text 22 = .ok (.iconst 0, 1) := by decide +kernel
theorem dX8_text_23 : decode cX8_text 23 = .ok (.putfield 109, 3) := by decide +kernel
theorem dX8_text_26 : decode cX8_text 26 = .ok (.aload_n 0, 1) := by decide +kernel
theorem dX8_text_27 : decode cX8_text 27 = .ok (.iconst 0, 1) := by decide +kernel
theorem dX8_text_28 : decode cX8_text 28 = .ok (.putfield 105, 3) := by decide +kernel
theorem dX8_text_31 : decode cX8_text 31 = .ok (.aload_n 0, 1) := by decide +kernel
theorem dX8_text_32 : decode cX8_text 32 = .ok (.iconst 0, 1) := by decide +kernel
theorem dX8_text_33 : decode cX8_text 33 = .ok (.putfield 127, 3) := by decide +kernel
theorem dX8_text_36 : decode cX8_text 36 = .ok (.aload_n 0, 1) := by decide +kernel
theorem dX8_text_37 : decode cX8_text 37 = .ok (.iconst 0, 1) := by decide +kernel
theorem dX8_text_38 : decode cX8_text 38 = .ok (.putfield 119, 3) := by decide +kernel
theorem dX8_text_41 : decode cX8_text 41 = .ok (.aload_n 0, 1) := by decide +kernel
theorem dX8_text_42 : decode cX8_text 42 = .ok (.invokevirtual 133, 3) := by decide +kernel
theorem dX8_text_45 : decode cX8_text 45 = .ok (.aload_n 0, 1) := by decide +kernel
theorem dX8_text_46 : decode cX8_text 46 = .ok (.aload_n 0, 1) := by decide +kernel
theorem dX8_text_47 : decode cX8_text 47 = .ok (.getfield 119, 3) := by decide +kernel
theorem dX8_text_50 : decode cX8_text 50 = .ok (.ifCond .ne 16, 3) := by decide +kernel
theorem dX8_text_53 : decode cX8_text 53 = .ok (.aload_n 0, 1) := by decide +kernel
theorem dX8_text_54 : decode cX8_text 54 = .ok (.getfield 105, 3) := by decide +kernel
theorem dX8_text_57 : decode cX8_text 57 = .ok (.aload_n 0, 1) := by decide +kernel
theorem dX8_text_58 : decode cX8_text 58 = .ok (.getfield 9, 3) := by decide +kernel
theorem dX8_text_61 : decode cX8_text 61 = .ok (.iconst 5, 1) := by decide +kernel
theorem dX8_text_62 : decode cX8_text 62 = .ok (.iaload, 1) := by decide +kernel
theorem dX8_text_63 : decode cX8_text 63 = .ok (.if_icmp .ge 7, 3) := by decide +kernel
theorem dX8_text_66 : decode cX8_text 66 = .ok (.iconst 1, 1) := by decide +kernel
theorem dX8_text_67 : decode cX8_text 67 = .ok (.goto 4, 3) := by decide +kernel
theorem dX8_text_70 : decode cX8_text 70 = .ok (.iconst 0, 1) := by decide +kernel
theorem dX8_text_71 : decode cX8_text 71 = .ok (.putfield 119, 3) := by decide +kernel
theorem dX8_text_74 : decode cX8_text 74 = .ok (.aload_n 0, 1) := by decide +kernel
theorem dX8_text_75 : decode cX8_text 75 = .ok (.getfield 9, 3) := by decide +kernel
theorem dX8_text_78 : decode cX8_text 78 = .ok (.iconst 5, 1) := by decide +kernel
theorem dX8_text_79 : decode cX8_text 79 = .ok (.iconst 0, 1) := by decide +kernel
theorem dX8_text_80 : decode cX8_text 80 = .ok (.iastore, 1) := by decide +kernel
theorem dX8_text_81 : decode cX8_text 81 = .ok (.aload_n 0, 1) := by decide +kernel
theorem dX8_text_82 : decode cX8_text 82 = .ok (.getfield 119, 3) := by decide +kernel
theorem dX8_text_85 : decode cX8_text 85 = .ok (.ifCond .eq 11, 3) := by decide +kernel
theorem dX8_text_88 : decode cX8_text 88 = .ok (.bipush (-10), 2) := by decide +kernel
theorem dX8_text_90 : decode cX8_text 90 = .ok (.aload_n 0, 1) := by decide +kernel
theorem dX8_text_91 : decode cX8_text 91 = .ok (.getfield 105, 3) := by decide +kernel
theorem dX8_text_94 : decode cX8_text 94 = .ok (.isub, 1) := by decide +kernel
theorem dX8_text_95 : decode cX8_text 95 = .ok (.ireturn, 1) := by decide +kernel
theorem dX8_text_96 : decode cX8_text 96 = .ok (.sipush 137, 3) := by decide +kernel
theorem dX8_text_99 : decode cX8_text 99 = .ok (.bipush 121, 2) := by decide +kernel
theorem dX8_text_101 : decode cX8_text 101 = .ok (.iload_n 1, 1) := by decide +kernel
theorem dX8_text_102 : decode cX8_text 102 = .ok (.imul, 1) := by decide +kernel
theorem dX8_text_103 : decode cX8_text 103 = .ok (.iadd, 1) := by decide +kernel
theorem dX8_text_104 : decode cX8_text 104 = .ok (.istore_n 2, 1) := by decide +kernel
theorem dX8_text_105 : decode cX8_text 105 = .ok (.aload_n 0, 1) := by decide +kernel
theorem dX8_text_106 : decode cX8_text 106 = .ok (.getfield 9, 3) := by decide +kernel
theorem dX8_text_109 : decode cX8_text 109 = .ok (.iload_n 2, 1) := by decide +kernel
theorem dX8_text_110 : decode cX8_text 110 = .ok (.aload_n 0, 1) := by decide +kernel
theorem dX8_text_111 : decode cX8_text 111 = .ok (.getfield 109, 3) := by decide +kernel
theorem dX8_text_114 : decode cX8_text 114 = .ok (.iastore, 1) := by decide +kernel
theorem dX8_text_115 : decode cX8_text 115 = .ok (.iconst 0, 1) := by decide +kernel
theorem dX8_text_116 : decode cX8_text 116 = .ok (.istore_n 3, 1) := by decide +kernel
theorem dX8_text_117 : decode cX8_text 117 = .ok (.iload_n 3, 1) := by decide +kernel
theorem dX8_text_118 : decode cX8_text 118 = .ok (.aload_n 0, 1) := by decide +kernel
theorem dX8_text_119 : decode cX8_text 119 = .ok (.getfield 109, 3) := by decide +kernel
theorem dX8_text_122 : decode cX8_text 122 = .ok (.if_icmp .ge 42, 3) := by decide +kernel
theorem dX8_text_125 : decode cX8_text 125 = .ok (.aload_n 0, 1) := by decide +kernel
theorem dX8_text_126 : decode cX8_text 126 = .ok (.getfield 9, 3) := by decide +kernel
theorem dX8_text_129 : decode cX8_text 129 = .ok (.iload_n 2, 1) := by decide +kernel
theorem dX8_text_130 : decode cX8_text 130 = .ok (.iconst 1, 1) := by decide +kernel
theorem dX8_text_131 : decode cX8_text 131 = .ok (.iadd, 1) := by decide +kernel
theorem dX8_text_132 : decode cX8_text 132 = .ok (.iload_n 3, 1) := by decide +kernel
theorem dX8_text_133 : decode cX8_text 133 = .ok (.iadd, 1) := by decide +kernel
theorem dX8_text_134 : decode cX8_text 134 = .ok (.aload_n 0, 1) := by decide +kernel
theorem dX8_text_135 : decode cX8_text 135 = .ok (.getfield 31, 3) := by decide +kernel
theorem dX8_text_138 : decode cX8_text 138 = .ok (.iload_n 3, 1) := by decide +kernel
theorem dX8_text_139 : decode cX8_text 139 = .ok (.iaload, 1) := by decide +kernel
theorem dX8_text_140 : decode cX8_text 140 = .ok (.iastore, 1) := by decide +kernel
theorem dX8_text_141 : decode cX8_text 141 = .ok (.aload_n 0, 1) := by decide +kernel
theorem dX8_text_142 : decode cX8_text 142 = .ok (.getfield 9, 3) := by decide +kernel
theorem dX8_text_145 : decode cX8_text 145 = .ok (.iload_n 2, 1) := by decide +kernel
theorem dX8_text_146 : decode cX8_text 146 = .ok (.bipush 61, 2) := by decide +kernel
theorem dX8_text_148 : decode cX8_text 148 = .ok (.iadd, 1) := by decide +kernel
theorem dX8_text_149 : decode cX8_text 149 = .ok (.iload_n 3, 1) := by decide +kernel
theorem dX8_text_150 : decode cX8_text 150 = .ok (.iadd, 1) := by decide +kernel
theorem dX8_text_151 : decode cX8_text 151 = .ok (.aload_n 0, 1) := by decide +kernel
theorem dX8_text_152 : decode cX8_text 152 = .ok (.getfield 34, 3) := by decide +kernel
theorem dX8_text_155 : decode cX8_text 155 = .ok (.iload_n 3, 1) := by decide +kernel
theorem dX8_text_156 : decode cX8_text 156 = .ok (.iaload, 1) := by decide +kernel
theorem dX8_text_157 : decode cX8_text 157 = .ok (.iastore, 1) := by decide +kernel
theorem dX8_text_158 : decode cX8_text 158 = .ok (.iinc 3 1, 3) := by decide +kernel
theorem dX8_text_161 : decode cX8_text 161 = .ok (.goto (-44), 3) := by decide +kernel
theorem dX8_text_164 : decode cX8_text 164 = .ok (.iconst 1, 1) := by decide +kernel
theorem dX8_text_165 : decode cX8_text 165 = .ok (.ireturn, 1) := by decide +kernel
theorem dX8_untell_0 : decode cX8_untell 0 = .ok (.iload_n 1, 1) := by decide +kernel
theorem dX8_untell_1 : decode cX8_untell 1 = .ok (.iconst 0, 1) := by decide +kernel
theorem dX8_untell_2 : decode cX8_untell 2 = .ok (.iconst 1, 1) := by decide +kernel
theorem dX8_untell_3 : decode cX8_untell 3 = .ok (.invokestatic 57, 3) := by decide +kernel
theorem dX8_untell_6 : decode cX8_untell 6 = .ok (.ifCond .ne 10, 3) := by decide +kernel
theorem dX8_untell_9 : decode cX8_untell 9 = .ok (.aload_n 0, 1) := by decide +kernel
theorem dX8_untell_10 : decode cX8_untell 10 = .ok (.ldc 77, 2) := by decide +kernel
theorem dX8_untell_12 : decode cX8_untell 12 = .ok (.invokevirtual 78, 3) := by decide +kernel
theorem dX8_untell_15 : decode cX8_untell 15 = .ok (.ireturn, 1) := by decide +kernel
theorem dX8_untell_16 : decode cX8_untell 16 = .ok (.aload_n 0, 1) := by decide +kernel
theorem dX8_untell_17 : decode cX8_untell 17 = .ok (.sipush 137, 3) := by decide +kernel
theorem dX8_untell_20 : decode cX8_untell 20 = .ok (.bipush 121, 2) := by decide +kernel
theorem dX8_untell_22 : decode cX8_untell 22 = .ok (.iload_n 1, 1) := by decide +kernel
theorem dX8_untell_23 : decode cX8_untell 23 = .ok (.imul, 1) := by decide +kernel
theorem dX8_untell_24 : decode cX8_untell 24 = .ok (.iadd, 1) := by decide +kernel
theorem dX8_untell_25 : decode cX8_untell 25 = .ok (.iconst 0, 1) := by decide +kernel
theorem dX8_untell_26 : decode cX8_untell 26 = .ok (.invokevirtual 95, 3) := by decide +kernel
theorem dX8_untell_29 : decode cX8_untell 29 = .ok (.ifCond .le 7, 3) := by decide +kernel
theorem dX8_untell_32 : decode cX8_untell 32 = .ok (.iconst 1, 1) := by decide +kernel
theorem dX8_untell_33 : decode cX8_untell 33 = .ok (.goto 4, 3) := by decide +kernel
theorem dX8_untell_36 : decode cX8_untell 36 = .ok (.iconst 0, 1) := by decide +kernel
theorem dX8_untell_37 : decode cX8_untell 37 = .ok (.ireturn, 1) := by decide +kernel
theorem dX8_twoOf_0 : decode cX8_twoOf 0 = .ok (.iload_n 0, 1) := by decide +kernel
theorem dX8_twoOf_1 : decode cX8_twoOf 1 = .ok (.tableswitch 202 37 62 #[143, 188, 202, 202, 202, 127, 119, 202, 123, 202, 131, 202, 202, 202, 202, 202, 202, 202, 202, 202, 202, 202, 202, 155, 166, 177], 119) := by decide +kernel
theorem dX8_twoOf_120 : decode cX8_twoOf 120 = .ok (.iload_n 1, 1) := by decide +kernel
theorem dX8_twoOf_121 : decode cX8_twoOf 121 = .ok (.iload_n 2, 1) := by decide +kernel
theorem dX8_twoOf_122 : decode cX8_twoOf 122 = .ok (.iadd, 1) := by decide +kernel
theorem dX8_twoOf_123 : decode cX8_twoOf 123 = .ok (.ireturn, 1) := by decide +kernel
theorem dX8_twoOf_124 : decode cX8_twoOf 124 = .ok (.iload_n 1, 1) := by decide +kernel
theorem dX8_twoOf_125 : decode cX8_twoOf 125 = .ok (.iload_n 2, 1) := by decide +kernel
theorem dX8_twoOf_126 : decode cX8_twoOf 126 = .ok (.isub, 1) := by decide +kernel
theorem dX8_twoOf_127 : decode cX8_twoOf 127 = .ok (.ireturn, 1) := by decide +kernel
theorem dX8_twoOf_128 : decode cX8_twoOf 128 = .ok (.iload_n 1, 1) := by decide +kernel
theorem dX8_twoOf_129 : decode cX8_twoOf 129 = .ok (.iload_n 2, 1) := by decide +kernel
theorem dX8_twoOf_130 : decode cX8_twoOf 130 = .ok (.imul, 1) := by decide +kernel
theorem dX8_twoOf_131 : decode cX8_twoOf 131 = .ok (.ireturn, 1) := by decide +kernel
theorem dX8_twoOf_132 : decode cX8_twoOf 132 = .ok (.iload_n 2, 1) := by decide +kernel
theorem dX8_twoOf_133 : decode cX8_twoOf 133 = .ok (.ifCond .ne 7, 3) := by decide +kernel
theorem dX8_twoOf_136 : decode cX8_twoOf 136 = .ok (.iconst 0, 1) := by decide +kernel
theorem dX8_twoOf_137 : decode cX8_twoOf 137 = .ok (.goto 6, 3) := by decide +kernel
theorem dX8_twoOf_140 : decode cX8_twoOf 140 = .ok (.iload_n 1, 1) := by decide +kernel
theorem dX8_twoOf_141 : decode cX8_twoOf 141 = .ok (.iload_n 2, 1) := by decide +kernel
theorem dX8_twoOf_142 : decode cX8_twoOf 142 = .ok (.idiv, 1) := by decide +kernel
theorem dX8_twoOf_143 : decode cX8_twoOf 143 = .ok (.ireturn, 1) := by decide +kernel
theorem dX8_twoOf_144 : decode cX8_twoOf 144 = .ok (.iload_n 2, 1) := by decide +kernel
theorem dX8_twoOf_145 : decode cX8_twoOf 145 = .ok (.ifCond .ne 7, 3) := by decide +kernel
theorem dX8_twoOf_148 : decode cX8_twoOf 148 = .ok (.iconst 0, 1) := by decide +kernel
theorem dX8_twoOf_149 : decode cX8_twoOf 149 = .ok (.goto 6, 3) := by decide +kernel
theorem dX8_twoOf_152 : decode cX8_twoOf 152 = .ok (.iload_n 1, 1) := by decide +kernel
theorem dX8_twoOf_153 : decode cX8_twoOf 153 = .ok (.iload_n 2, 1) := by decide +kernel
theorem dX8_twoOf_154 : decode cX8_twoOf 154 = .ok (.irem, 1) := by decide +kernel
theorem dX8_twoOf_155 : decode cX8_twoOf 155 = .ok (.ireturn, 1) := by decide +kernel
theorem dX8_twoOf_156 : decode cX8_twoOf 156 = .ok (.iload_n 1, 1) := by decide +kernel
theorem dX8_twoOf_157 : decode cX8_twoOf 157 = .ok (.iload_n 2, 1) := by decide +kernel
theorem dX8_twoOf_158 : decode cX8_twoOf 158 = .ok (.if_icmp .ge 7, 3) := by decide +kernel
theorem dX8_twoOf_161 : decode cX8_twoOf 161 = .ok (.iconst 1, 1) := by decide +kernel
theorem dX8_twoOf_162 : decode cX8_twoOf 162 = .ok (.goto 4, 3) := by decide +kernel
theorem dX8_twoOf_165 : decode cX8_twoOf 165 = .ok (.iconst 0, 1) := by decide +kernel
theorem dX8_twoOf_166 : decode cX8_twoOf 166 = .ok (.ireturn, 1) := by decide +kernel
theorem dX8_twoOf_167 : decode cX8_twoOf 167 = .ok (.iload_n 1, 1) := by decide +kernel
theorem dX8_twoOf_168 : decode cX8_twoOf 168 = .ok (.iload_n 2, 1) := by decide +kernel
theorem dX8_twoOf_169 : decode cX8_twoOf 169 = .ok (.if_icmp .ne 7, 3) := by decide +kernel
theorem dX8_twoOf_172 : decode cX8_twoOf 172 = .ok (.iconst 1, 1) := by decide +kernel
theorem dX8_twoOf_173 : decode cX8_twoOf 173 = .ok (.goto 4, 3) := by decide +kernel
theorem dX8_twoOf_176 : decode cX8_twoOf 176 = .ok (.iconst 0, 1) := by decide +kernel
theorem dX8_twoOf_177 : decode cX8_twoOf 177 = .ok (.ireturn, 1) := by decide +kernel
theorem dX8_twoOf_178 : decode cX8_twoOf 178 = .ok (.iload_n 1, 1) := by decide +kernel
theorem dX8_twoOf_179 : decode cX8_twoOf 179 = .ok (.iload_n 2, 1) := by decide +kernel
theorem dX8_twoOf_180 : decode cX8_twoOf 180 = .ok (.if_icmp .le 7, 3) := by decide +kernel
theorem dX8_twoOf_183 : decode cX8_twoOf 183 = .ok (.iconst 1, 1) := by decide +kernel
theorem dX8_twoOf_184 : decode cX8_twoOf 184 = .ok (.goto 4, 3) := by decide +kernel
theorem dX8_twoOf_187 : decode cX8_twoOf 187 = .ok (.iconst 0, 1) := by decide +kernel
theorem dX8_twoOf_188 : decode cX8_twoOf 188 = .ok (.ireturn, 1) := by decide +kernel
theorem dX8_twoOf_189 : decode cX8_twoOf 189 = .ok (.iload_n 1, 1) := by decide +kernel
theorem dX8_twoOf_190 : decode cX8_twoOf 190 = .ok (.ifCond .eq 11, 3) := by decide +kernel
theorem dX8_twoOf_193 : decode cX8_twoOf 193 = .ok (.iload_n 2, 1) := by decide +kernel
theorem dX8_twoOf_194 : decode cX8_twoOf 194 = .ok (.ifCond .eq 7, 3) := by decide +kernel
theorem dX8_twoOf_197 : decode cX8_twoOf 197 = .ok (.iconst 1, 1) := by decide +kernel
theorem dX8_twoOf_198 : decode cX8_twoOf 198 = .ok (.goto 4, 3) := by decide +kernel
theorem dX8_twoOf_201 : decode cX8_twoOf 201 = .ok (.iconst 0, 1) := by decide +kernel
theorem dX8_twoOf_202 : decode cX8_twoOf 202 = .ok (.ireturn, 1) := by decide +kernel
theorem dX8_twoOf_203 : decode cX8_twoOf 203 = .ok (.iload_n 1, 1) := by decide +kernel
theorem dX8_twoOf_204 : decode cX8_twoOf 204 = .ok (.ifCond .ne 7, 3) := by decide +kernel
theorem dX8_twoOf_207 : decode cX8_twoOf 207 = .ok (.iload_n 2, 1) := by decide +kernel
theorem dX8_twoOf_208 : decode cX8_twoOf 208 = .ok (.ifCond .eq 7, 3) := by decide +kernel
theorem dX8_twoOf_211 : decode cX8_twoOf 211 = .ok (.iconst 1, 1) := by decide +kernel
theorem dX8_twoOf_212 : decode cX8_twoOf 212 = .ok (.goto 4, 3) := by decide +kernel
theorem dX8_twoOf_215 : decode cX8_twoOf 215 = .ok (.iconst 0, 1) := by decide +kernel
theorem dX8_twoOf_216 : decode cX8_twoOf 216 = .ok (.ireturn, 1) := by decide +kernel
theorem dX8_works_0 : decode cX8_works 0 = .ok (.iconst 0, 1) := by decide +kernel
theorem dX8_works_1 : decode cX8_works 1 = .ok (.istore_n 2, 1) := by decide +kernel
theorem dX8_works_2 : decode cX8_works 2 = .ok (.iconst 0, 1) := by decide +kernel
theorem dX8_works_3 : decode cX8_works 3 = .ok (.istore_n 3, 1) := by decide +kernel
theorem dX8_works_4 : decode cX8_works 4 = .ok (.iload_n 3, 1) := by decide +kernel
theorem dX8_works_5 : decode cX8_works 5 = .ok (.aload_n 0, 1) := by decide +kernel
theorem dX8_works_6 : decode cX8_works 6 = .ok (.getfield 9, 3) := by decide +kernel
theorem dX8_works_9 : decode cX8_works 9 = .ok (.iload_n 1, 1) := by decide +kernel
theorem dX8_works_10 : decode cX8_works 10 = .ok (.iaload, 1) := by decide +kernel
theorem dX8_works_11 : decode cX8_works 11 = .ok (.if_icmp .ge 144, 3) := by decide +kernel
theorem dX8_works_14 : decode cX8_works 14 = .ok (.aload_n 0, 1) := by decide +kernel
theorem dX8_works_15 : decode cX8_works 15 = .ok (.getfield 9, 3) := by decide +kernel
theorem dX8_works_18 : decode cX8_works 18 = .ok (.iload_n 1, 1) := by decide +kernel
theorem dX8_works_19 : decode cX8_works 19 = .ok (.iconst 1, 1) := by decide +kernel
theorem dX8_works_20 : decode cX8_works 20 = .ok (.iadd, 1) := by decide +kernel
theorem dX8_works_21 : decode cX8_works 21 = .ok (.iload_n 3, 1) := by decide +kernel
theorem dX8_works_22 : decode cX8_works 22 = .ok (.iadd, 1) := by decide +kernel
theorem dX8_works_23 : decode cX8_works 23 = .ok (.iaload, 1) := by decide +kernel
theorem dX8_works_24 : decode cX8_works 24 = .ok (.istore 4, 2) := by decide +kernel
theorem dX8_works_26 : decode cX8_works 26 = .ok (.iload 4, 2) := by decide +kernel
theorem dX8_works_28 : decode cX8_works 28 = .ok (.iconst 1, 1) := by decide +kernel
theorem dX8_works_29 : decode cX8_works 29 = .ok (.if_icmp .eq 9, 3) := by decide +kernel
theorem dX8_works_32 : decode cX8_works 32 = .ok (.iload 4, 2) := by decide +kernel
theorem dX8_works_34 : decode cX8_works 34 = .ok (.iconst 2, 1) := by decide +kernel
theorem dX8_works_35 : decode cX8_works 35 = .ok (.if_icmp .ne 51, 3) := by decide +kernel
theorem dX8_works_38 : decode cX8_works 38 = .ok (.aload_n 0, 1) := by decide +kernel
theorem dX8_works_39 : decode cX8_works 39 = .ok (.getfield 40, 3) := by decide +kernel
theorem dX8_works_42 : decode cX8_works 42 = .ok (.iload_n 2, 1) := by decide +kernel
theorem dX8_works_43 : decode cX8_works 43 = .ok (.iload 4, 2) := by decide +kernel
theorem dX8_works_45 : decode cX8_works 45 = .ok (.iconst 1, 1) := by decide +kernel
theorem dX8_works_46 : decode cX8_works 46 = .ok (.if_icmp .ne 17, 3) := by decide +kernel
theorem dX8_works_49 : decode cX8_works 49 = .ok (.aload_n 0, 1) := by decide +kernel
theorem dX8_works_50 : decode cX8_works 50 = .ok (.getfield 9, 3) := by decide +kernel
theorem dX8_works_53 : decode cX8_works 53 = .ok (.iload_n 1, 1) := by decide +kernel
theorem dX8_works_54 : decode cX8_works 54 = .ok (.bipush 61, 2) := by decide +kernel
theorem dX8_works_56 : decode cX8_works 56 = .ok (.iadd, 1) := by decide +kernel
theorem dX8_works_57 : decode cX8_works 57 = .ok (.iload_n 3, 1) := by decide +kernel
theorem dX8_works_58 : decode cX8_works 58 = .ok (.iadd, 1) := by decide +kernel
theorem dX8_works_59 : decode cX8_works 59 = .ok (.iaload, 1) := by decide +kernel
theorem dX8_works_60 : decode cX8_works 60 = .ok (.goto 19, 3) := by decide +kernel
theorem dX8_works_63 : decode cX8_works 63 = .ok (.aload_n 0, 1) := by decide +kernel
theorem dX8_works_64 : decode cX8_works 64 = .ok (.getfield 37, 3) := by decide +kernel
theorem dX8_works_67 : decode cX8_works 67 = .ok (.aload_n 0, 1) := by decide +kernel
theorem dX8_works_68 : decode cX8_works 68 = .ok (.getfield 9, 3) := by decide +kernel
theorem dX8_works_71 : decode cX8_works 71 = .ok (.iload_n 1, 1) := by decide +kernel
theorem dX8_works_72 : decode cX8_works 72 = .ok (.bipush 61, 2) := by decide +kernel
theorem dX8_works_74 : decode cX8_works 74 = .ok (.iadd, 1) := by decide +kernel
theorem dX8_works_75 : decode cX8_works 75 = .ok (.iload_n 3, 1) := by decide +kernel
theorem dX8_works_76 : decode cX8_works 76 = .ok (.iadd, 1) := by decide +kernel
theorem dX8_works_77 : decode cX8_works 77 = .ok (.iaload, 1) := by decide +kernel
theorem dX8_works_78 : decode cX8_works 78 = .ok (.iaload, 1) := by decide +kernel
theorem dX8_works_79 : decode cX8_works 79 = .ok (.iastore, 1) := by decide +kernel
theorem dX8_works_80 : decode cX8_works 80 = .ok (.iinc 2 1, 3) := by decide +kernel
theorem dX8_works_83 : decode cX8_works 83 = .ok (.goto 66, 3) := by decide +kernel
theorem dX8_works_86 : decode cX8_works 86 = .ok (.iload 4, 2) := by decide +kernel
theorem dX8_works_88 : decode cX8_works 88 = .ok (.iconst 3, 1) := by decide +kernel
theorem dX8_works_89 : decode cX8_works 89 = .ok (.if_icmp .ne 30, 3) := by decide +kernel
theorem dX8_works_92 : decode cX8_works 92 = .ok (.aload_n 0, 1) := by decide +kernel
theorem dX8_works_93 : decode cX8_works 93 = .ok (.getfield 40, 3) := by decide +kernel
theorem dX8_works_96 : decode cX8_works 96 = .ok (.iload_n 2, 1) := by decide +kernel
theorem dX8_works_97 : decode cX8_works 97 = .ok (.iconst 1, 1) := by decide +kernel
theorem dX8_works_98 : decode cX8_works 98 = .ok (.isub, 1) := by decide +kernel
theorem dX8_works_99 : decode cX8_works 99 = .ok (.aload_n 0, 1) := by decide +kernel
theorem dX8_works_100 : decode cX8_works 100 = .ok (.getfield 40, 3) := by decide +kernel
theorem dX8_works_103 : decode cX8_works 103 = .ok (.iload_n 2, 1) := by decide +kernel
theorem dX8_works_104 : decode cX8_works 104 = .ok (.iconst 1, 1) := by decide +kernel
theorem dX8_works_105 : decode cX8_works 105 = .ok (.isub, 1) := by decide +kernel
theorem dX8_works_106 : decode cX8_works 106 = .ok (.iaload, 1) := by decide +kernel
theorem dX8_works_107 : decode cX8_works 107 = .ok (.ifCond .ne 7, 3) := by decide +kernel
theorem dX8_works_110 : decode cX8_works 110 = .ok (.iconst 1, 1) := by decide +kernel
theorem dX8_works_111 : decode cX8_works 111 = .ok (.goto 4, 3) := by decide +kernel
theorem dX8_works_114 : decode cX8_works 114 = .ok (.iconst 0, 1) := by decide +kernel
theorem dX8_works_115 : decode cX8_works 115 = .ok (.iastore, 1) := by decide +kernel
theorem dX8_works_116 : decode cX8_works 116 = .ok (.goto 33, 3) := by decide +kernel
theorem dX8_works_119 : decode cX8_works 119 = .ok (.iinc 2 (-1), 3) := by decide +kernel
theorem dX8_works_122 : decode cX8_works 122 = .ok (.aload_n 0, 1) := by decide +kernel
theorem dX8_works_123 : decode cX8_works 123 = .ok (.getfield 40, 3) := by decide +kernel
theorem dX8_works_126 : decode cX8_works 126 = .ok (.iload_n 2, 1) := by decide +kernel
theorem dX8_works_127 : decode cX8_works 127 = .ok (.iconst 1, 1) := by decide +kernel
theorem dX8_works_128 : decode cX8_works 128 = .ok (.isub, 1) := by decide +kernel
theorem dX8_works_129 : decode cX8_works 129 = .ok (.iload 4, 2) := by decide +kernel
theorem dX8_works_131 : decode cX8_works 131 = .ok (.aload_n 0, 1) := by decide +kernel
theorem dX8_works_132 : decode cX8_works 132 = .ok (.getfield 40, 3) := by decide +kernel
theorem dX8_works_135 : decode cX8_works 135 = .ok (.iload_n 2, 1) := by decide +kernel
theorem dX8_works_136 : decode cX8_works 136 = .ok (.iconst 1, 1) := by decide +kernel
theorem dX8_works_137 : decode cX8_works 137 = .ok (.isub, 1) := by decide +kernel
theorem dX8_works_138 : decode cX8_works 138 = .ok (.iaload, 1) := by decide +kernel
theorem dX8_works_139 : decode cX8_works 139 = .ok (.aload_n 0, 1) := by decide +kernel
theorem dX8_works_140 : decode cX8_works 140 = .ok (.getfield 40, 3) := by decide +kernel
theorem dX8_works_143 : decode cX8_works 143 = .ok (.iload_n 2, 1) := by decide +kernel
theorem dX8_works_144 : decode cX8_works 144 = .ok (.iaload, 1) := by decide +kernel
theorem dX8_works_145 : decode cX8_works 145 = .ok (.invokestatic 157, 3) := by decide +kernel
theorem dX8_works_148 : decode cX8_works 148 = .ok (.iastore, 1) := by decide +kernel
theorem dX8_works_149 : decode cX8_works 149 = .ok (.iinc 3 1, 3) := by decide +kernel
theorem dX8_works_152 : decode cX8_works 152 = .ok (.goto (-148), 3) := by decide +kernel
theorem dX8_works_155 : decode cX8_works 155 = .ok (.aload_n 0, 1) := by decide +kernel
theorem dX8_works_156 : decode cX8_works 156 = .ok (.getfield 40, 3) := by decide +kernel
theorem dX8_works_159 : decode cX8_works 159 = .ok (.iconst 0, 1) := by decide +kernel
theorem dX8_works_160 : decode cX8_works 160 = .ok (.iaload, 1) := by decide +kernel
theorem dX8_works_161 : decode cX8_works 161 = .ok (.ireturn, 1) := by decide +kernel
theorem dX8_gives_0 : decode cX8_gives 0 = .ok (.sipush 137, 3) := by decide +kernel
theorem dX8_gives_3 : decode cX8_gives 3 = .ok (.bipush 121, 2) := by decide +kernel
theorem dX8_gives_5 : decode cX8_gives 5 = .ok (.iload_n 1, 1) := by decide +kernel
theorem dX8_gives_6 : decode cX8_gives 6 = .ok (.imul, 1) := by decide +kernel
theorem dX8_gives_7 : decode cX8_gives 7 = .ok (.iadd, 1) := by decide +kernel
theorem dX8_gives_8 : decode cX8_gives 8 = .ok (.istore 5, 2) := by decide +kernel
theorem dX8_gives_10 : decode cX8_gives 10 = .ok (.aload_n 0, 1) := by decide +kernel
theorem dX8_gives_11 : decode cX8_gives 11 = .ok (.getfield 37, 3) := by decide +kernel
theorem dX8_gives_14 : decode cX8_gives 14 = .ok (.iconst 0, 1) := by decide +kernel
theorem dX8_gives_15 : decode cX8_gives 15 = .ok (.iload_n 2, 1) := by decide +kernel
theorem dX8_gives_16 : decode cX8_gives 16 = .ok (.iastore, 1) := by decide +kernel
theorem dX8_gives_17 : decode cX8_gives 17 = .ok (.aload_n 0, 1) := by decide +kernel
theorem dX8_gives_18 : decode cX8_gives 18 = .ok (.getfield 37, 3) := by decide +kernel
theorem dX8_gives_21 : decode cX8_gives 21 = .ok (.iconst 1, 1) := by decide +kernel
theorem dX8_gives_22 : decode cX8_gives 22 = .ok (.iload_n 3, 1) := by decide +kernel
theorem dX8_gives_23 : decode cX8_gives 23 = .ok (.iastore, 1) := by decide +kernel
theorem dX8_gives_24 : decode cX8_gives 24 = .ok (.aload_n 0, 1) := by decide +kernel
theorem dX8_gives_25 : decode cX8_gives 25 = .ok (.getfield 37, 3) := by decide +kernel
theorem dX8_gives_28 : decode cX8_gives 28 = .ok (.iconst 2, 1) := by decide +kernel
theorem dX8_gives_29 : decode cX8_gives 29 = .ok (.iload 4, 2) := by decide +kernel
theorem dX8_gives_31 : decode cX8_gives 31 = .ok (.iastore, 1) := by decide +kernel
theorem dX8_gives_32 : decode cX8_gives 32 = .ok (.aload_n 0, 1) := by decide +kernel
theorem dX8_gives_33 : decode cX8_gives 33 = .ok (.getfield 9, 3) := by decide +kernel
theorem dX8_gives_36 : decode cX8_gives 36 = .ok (.iload 5, 2) := by decide +kernel
theorem dX8_gives_38 : decode cX8_gives 38 = .ok (.iaload, 1) := by decide +kernel
theorem dX8_gives_39 : decode cX8_gives 39 = .ok (.ifCond .le 12, 3) := by decide +kernel
theorem dX8_gives_42 : decode cX8_gives 42 = .ok (.aload_n 0, 1) := by decide +kernel
theorem dX8_gives_43 : decode cX8_gives 43 = .ok (.iload 5, 2) := by decide +kernel
theorem dX8_gives_45 : decode cX8_gives 45 = .ok (.invokevirtual 161, 3) := by decide +kernel
theorem dX8_gives_48 : decode cX8_gives 48 = .ok (.goto 15, 3) := by decide +kernel
theorem dX8_gives_51 : decode cX8_gives 51 = .ok (.iload_n 1, 1) := by decide +kernel
theorem dX8_gives_52 : decode cX8_gives 52 = .ok (.ifCond .ne 9, 3) := by decide +kernel
theorem dX8_gives_55 : decode cX8_gives 55 = .ok (.iload_n 2, 1) := by decide +kernel
theorem dX8_gives_56 : decode cX8_gives 56 = .ok (.iload_n 3, 1) := by decide +kernel
theorem dX8_gives_57 : decode cX8_gives 57 = .ok (.iadd, 1) := by decide +kernel
theorem dX8_gives_58 : decode cX8_gives 58 = .ok (.goto 5, 3) := by decide +kernel
theorem dX8_gives_61 : decode cX8_gives 61 = .ok (.iload 4, 2) := by decide +kernel
theorem dX8_gives_63 : decode cX8_gives 63 = .ok (.istore 6, 2) := by decide +kernel
theorem dX8_gives_65 : decode cX8_gives 65 = .ok (.iload 6, 2) := by decide +kernel
theorem dX8_gives_67 : decode cX8_gives 67 = .ok (.iconst 0, 1) := by decide +kernel
theorem dX8_gives_68 : decode cX8_gives 68 = .ok (.bipush 99, 2) := by decide +kernel
theorem dX8_gives_70 : decode cX8_gives 70 = .ok (.invokestatic 164, 3) := by decide +kernel
theorem dX8_gives_73 : decode cX8_gives 73 = .ok (.ireturn, 1) := by decide +kernel
theorem dX8_law_0 : decode cX8_law 0 = .ok (.iload_n 1, 1) := by decide +kernel
theorem dX8_law_1 : decode cX8_law 1 = .ok (.iconst 0, 1) := by decide +kernel
theorem dX8_law_2 : decode cX8_law 2 = .ok (.iconst 1, 1) := by decide +kernel
theorem dX8_law_3 : decode cX8_law 3 = .ok (.invokestatic 57, 3) := by decide +kernel
theorem dX8_law_6 : decode cX8_law 6 = .ok (.ifCond .eq 15, 3) := by decide +kernel
theorem dX8_law_9 : decode cX8_law 9 = .ok (.aload_n 0, 1) := by decide +kernel
theorem dX8_law_10 : decode cX8_law 10 = .ok (.iload_n 1, 1) := by decide +kernel
theorem dX8_law_11 : decode cX8_law 11 = .ok (.iload_n 2, 1) := by decide +kernel
theorem dX8_law_12 : decode cX8_law 12 = .ok (.iload_n 3, 1) := by decide +kernel
theorem dX8_law_13 : decode cX8_law 13 = .ok (.iload 4, 2) := by decide +kernel
theorem dX8_law_15 : decode cX8_law 15 = .ok (.invokevirtual 167, 3) := by decide +kernel
theorem dX8_law_18 : decode cX8_law 18 = .ok (.goto 9, 3) := by decide +kernel
theorem dX8_law_21 : decode cX8_law 21 = .ok (.aload_n 0, 1) := by decide +kernel
theorem dX8_law_22 : decode cX8_law 22 = .ok (.ldc 77, 2) := by decide +kernel
theorem dX8_law_24 : decode cX8_law 24 = .ok (.invokevirtual 78, 3) := by decide +kernel
theorem dX8_law_27 : decode cX8_law 27 = .ok (.ireturn, 1) := by decide +kernel
theorem dX8_usedOf_0 : decode cX8_usedOf 0 = .ok (.aload_n 0, 1) := by decide +kernel
theorem dX8_usedOf_1 : decode cX8_usedOf 1 = .ok (.iconst 1, 1) := by decide +kernel
theorem dX8_usedOf_2 : decode cX8_usedOf 2 = .ok (.iload_n 1, 1) := by decide +kernel
theorem dX8_usedOf_3 : decode cX8_usedOf 3 = .ok (.aload_n 0, 1) := by decide +kernel
theorem dX8_usedOf_4 : decode cX8_usedOf 4 = .ok (.iload_n 1, 1) := by decide +kernel
theorem dX8_usedOf_5 : decode cX8_usedOf 5 = .ok (.iconst 0, 1) := by decide +kernel
theorem dX8_usedOf_6 : decode cX8_usedOf 6 = .ok (.invokevirtual 61, 3) := by decide +kernel
theorem dX8_usedOf_9 : decode cX8_usedOf 9 = .ok (.aload_n 0, 1) := by decide +kernel
theorem dX8_usedOf_10 : decode cX8_usedOf 10 = .ok (.iload_n 1, 1) := by decide +kernel
theorem dX8_usedOf_11 : decode cX8_usedOf 11 = .ok (.iconst 1, 1) := by decide +kernel
theorem dX8_usedOf_12 : decode cX8_usedOf 12 = .ok (.invokevirtual 61, 3) := by decide +kernel
theorem dX8_usedOf_15 : decode cX8_usedOf 15 = .ok (.invokevirtual 167, 3) := by decide +kernel
theorem dX8_usedOf_18 : decode cX8_usedOf 18 = .ok (.ireturn, 1) := by decide +kernel
theorem dX8_feelingTo_0 : decode cX8_feelingTo 0 = .ok (.iconst 0, 1) := by decide +kernel
theorem dX8_feelingTo_1 : decode cX8_feelingTo 1 = .ok (.istore_n 2, 1) := by decide +kernel
theorem dX8_feelingTo_2 : decode cX8_feelingTo 2 = .ok (.iconst 0, 1) := by decide +kernel
theorem dX8_feelingTo_3 : decode cX8_feelingTo 3 = .ok (.istore_n 3, 1) := by decide +kernel
theorem dX8_feelingTo_4 : decode cX8_feelingTo 4 = .ok (.iload_n 3, 1) := by decide +kernel
theorem dX8_feelingTo_5 : decode cX8_feelingTo 5 = .ok (.iload_n 1, 1) := by decide +kernel
theorem dX8_feelingTo_6 : decode cX8_feelingTo 6 = .ok (.if_icmp .gt 42, 3) := by decide +kernel
theorem dX8_feelingTo_9 : decode cX8_feelingTo 9 = .ok (.aload_n 0, 1) := by decide +kernel
theorem dX8_feelingTo_10 : decode cX8_feelingTo 10 = .ok (.getfield 9, 3) := by decide +kernel
theorem dX8_feelingTo_13 : decode cX8_feelingTo 13 = .ok (.bipush 8, 2) := by decide +kernel
theorem dX8_feelingTo_15 : decode cX8_feelingTo 15 = .ok (.iload_n 3, 1) := by decide +kernel
theorem dX8_feelingTo_16 : decode cX8_feelingTo 16 = .ok (.iadd, 1) := by decide +kernel
theorem dX8_feelingTo_17 : decode cX8_feelingTo 17 = .ok (.iaload, 1) := by decide +kernel
theorem dX8_feelingTo_18 : decode cX8_feelingTo 18 = .ok (.istore 4, 2) := by decide +kernel
theorem dX8_feelingTo_20 : decode cX8_feelingTo 20 = .ok (.iload_n 2, 1) := by decide +kernel
theorem dX8_feelingTo_21 : decode cX8_feelingTo 21 = .ok (.aload_n 0, 1) := by decide +kernel
theorem dX8_feelingTo_22 : decode cX8_feelingTo 22 = .ok (.iconst 0, 1) := by decide +kernel
theorem dX8_feelingTo_23 : decode cX8_feelingTo 23 = .ok (.aload_n 0, 1) := by decide +kernel
theorem dX8_feelingTo_24 : decode cX8_feelingTo 24 = .ok (.iload 4, 2) := by decide +kernel
theorem dX8_feelingTo_26 : decode cX8_feelingTo 26 = .ok (.invokevirtual 92, 3) := by decide +kernel
theorem dX8_feelingTo_29 : decode cX8_feelingTo 29 = .ok (.iload_n 3, 1) := by decide +kernel
theorem dX8_feelingTo_30 : decode cX8_feelingTo 30 = .ok (.aload_n 0, 1) := by decide +kernel
theorem dX8_feelingTo_31 : decode cX8_feelingTo 31 = .ok (.iload 4, 2) := by decide +kernel
theorem dX8_feelingTo_33 : decode cX8_feelingTo 33 = .ok (.iconst 0, 1) := by decide +kernel
theorem dX8_feelingTo_34 : decode cX8_feelingTo 34 = .ok (.invokevirtual 61, 3) := by decide +kernel
theorem dX8_feelingTo_37 : decode cX8_feelingTo 37 = .ok (.invokevirtual 167, 3) := by decide +kernel
theorem dX8_feelingTo_40 : decode cX8_feelingTo 40 = .ok (.iadd, 1) := by decide +kernel
theorem dX8_feelingTo_41 : decode cX8_feelingTo 41 = .ok (.istore_n 2, 1) := by decide +kernel
theorem dX8_feelingTo_42 : decode cX8_feelingTo 42 = .ok (.iinc 3 1, 3) := by decide +kernel
theorem dX8_feelingTo_45 : decode cX8_feelingTo 45 = .ok (.goto (-41), 3) := by decide +kernel
theorem dX8_feelingTo_48 : decode cX8_feelingTo 48 = .ok (.iload_n 2, 1) := by decide +kernel
theorem dX8_feelingTo_49 : decode cX8_feelingTo 49 = .ok (.ireturn, 1) := by decide +kernel
theorem dX8_timeOf_0 : decode cX8_timeOf 0 = .ok (.aload_n 0, 1) := by decide +kernel
theorem dX8_timeOf_1 : decode cX8_timeOf 1 = .ok (.iload_n 1, 1) := by decide +kernel
theorem dX8_timeOf_2 : decode cX8_timeOf 2 = .ok (.invokevirtual 89, 3) := by decide +kernel
theorem dX8_timeOf_5 : decode cX8_timeOf 5 = .ok (.istore_n 3, 1) := by decide +kernel
theorem dX8_timeOf_6 : decode cX8_timeOf 6 = .ok (.iload_n 3, 1) := by decide +kernel
theorem dX8_timeOf_7 : decode cX8_timeOf 7 = .ok (.iconst (-1), 1) := by decide +kernel
theorem dX8_timeOf_8 : decode cX8_timeOf 8 = .ok (.if_icmp .ne 5, 3) := by decide +kernel
theorem dX8_timeOf_11 : decode cX8_timeOf 11 = .ok (.iconst 4, 1) := by decide +kernel
theorem dX8_timeOf_12 : decode cX8_timeOf 12 = .ok (.ireturn, 1) := by decide +kernel
theorem dX8_timeOf_13 : decode cX8_timeOf 13 = .ok (.iload_n 2, 1) := by decide +kernel
theorem dX8_timeOf_14 : decode cX8_timeOf 14 = .ok (.ifCond .ne 11, 3) := by decide +kernel
theorem dX8_timeOf_17 : decode cX8_timeOf 17 = .ok (.aload_n 0, 1) := by decide +kernel
theorem dX8_timeOf_18 : decode cX8_timeOf 18 = .ok (.iload_n 3, 1) := by decide +kernel
theorem dX8_timeOf_19 : decode cX8_timeOf 19 = .ok (.invokevirtual 171, 3) := by decide +kernel
theorem dX8_timeOf_22 : decode cX8_timeOf 22 = .ok (.goto 27, 3) := by decide +kernel
theorem dX8_timeOf_25 : decode cX8_timeOf 25 = .ok (.iload_n 2, 1) := by decide +kernel
theorem dX8_timeOf_26 : decode cX8_timeOf 26 = .ok (.iconst 1, 1) := by decide +kernel
theorem dX8_timeOf_27 : decode cX8_timeOf 27 = .ok (.if_icmp .ne 11, 3) := by decide +kernel
theorem dX8_timeOf_30 : decode cX8_timeOf 30 = .ok (.iconst 3, 1) := by decide +kernel
theorem dX8_timeOf_31 : decode cX8_timeOf 31 = .ok (.iconst 2, 1) := by decide +kernel
theorem dX8_timeOf_32 : decode cX8_timeOf 32 = .ok (.iload_n 3, 1) := by decide +kernel
theorem dX8_timeOf_33 : decode cX8_timeOf 33 = .ok (.imul, 1) := by decide +kernel
theorem dX8_timeOf_34 : decode cX8_timeOf 34 = .ok (.iadd, 1) := by decide +kernel
theorem dX8_timeOf_35 : decode cX8_timeOf 35 = .ok (.goto 14, 3) := by decide +kernel
theorem dX8_timeOf_38 : decode cX8_timeOf 38 = .ok (.bipush 9, 2) := by decide +kernel
theorem dX8_timeOf_40 : decode cX8_timeOf 40 = .ok (.iconst 2, 1) := by decide +kernel
theorem dX8_timeOf_41 : decode cX8_timeOf 41 = .ok (.aload_n 0, 1) := by decide +kernel
theorem dX8_timeOf_42 : decode cX8_timeOf 42 = .ok (.getfield 9, 3) := by decide +kernel
theorem dX8_timeOf_45 : decode cX8_timeOf 45 = .ok (.iconst 3, 1) := by decide +kernel
theorem dX8_timeOf_46 : decode cX8_timeOf 46 = .ok (.iaload, 1) := by decide +kernel
theorem dX8_timeOf_47 : decode cX8_timeOf 47 = .ok (.imul, 1) := by decide +kernel
theorem dX8_timeOf_48 : decode cX8_timeOf 48 = .ok (.iadd, 1) := by decide +kernel
theorem dX8_timeOf_49 : decode cX8_timeOf 49 = .ok (.ireturn, 1) := by decide +kernel
theorem dX8_bestWay_0 : decode cX8_bestWay 0 = .ok (.iconst 0, 1) := by decide +kernel
theorem dX8_bestWay_1 : decode cX8_bestWay 1 = .ok (.istore_n 2, 1) := by decide +kernel
theorem dX8_bestWay_2 : decode cX8_bestWay 2 = .ok (.iconst 1, 1) := by decide +kernel
theorem dX8_bestWay_3 : decode cX8_bestWay 3 = .ok (.istore_n 3, 1) := by decide +kernel
theorem dX8_bestWay_4 : decode cX8_bestWay 4 = .ok (.iload_n 3, 1) := by decide +kernel
theorem dX8_bestWay_5 : decode cX8_bestWay 5 = .ok (.iconst 3, 1) := by decide +kernel
theorem dX8_bestWay_6 : decode cX8_bestWay 6 = .ok (.if_icmp .ge 30, 3) := by decide +kernel
theorem dX8_bestWay_9 : decode cX8_bestWay 9 = .ok (.aload_n 0, 1) := by decide +kernel
theorem dX8_bestWay_10 : decode cX8_bestWay 10 = .ok (.iload_n 1, 1) := by decide +kernel
theorem dX8_bestWay_11 : decode cX8_bestWay 11 = .ok (.iload_n 3, 1) := by decide +kernel
theorem dX8_bestWay_12 : decode cX8_bestWay 12 = .ok (.invokevirtual 174, 3) := by decide +kernel
theorem dX8_bestWay_15 : decode cX8_bestWay 15 = .ok (.aload_n 0, 1) := by decide +kernel
theorem dX8_bestWay_16 : decode cX8_bestWay 16 = .ok (.iload_n 1, 1) := by decide +kernel
theorem dX8_bestWay_17 : decode cX8_bestWay 17 = .ok (.iload_n 2, 1) := by decide +kernel
theorem dX8_bestWay_18 : decode cX8_bestWay 18 = .ok (.invokevirtual 174, 3) := by decide +kernel
theorem dX8_bestWay_21 : decode cX8_bestWay 21 = .ok (.if_icmp .ge 7, 3) := by decide +kernel
theorem dX8_bestWay_24 : decode cX8_bestWay 24 = .ok (.iload_n 3, 1) := by decide +kernel
theorem dX8_bestWay_25 : decode cX8_bestWay 25 = .ok (.goto 4, 3) := by decide +kernel
theorem dX8_bestWay_28 : decode cX8_bestWay 28 = .ok (.iload_n 2, 1) := by decide +kernel
theorem dX8_bestWay_29 : decode cX8_bestWay 29 = .ok (.istore_n 2, 1) := by decide +kernel
theorem dX8_bestWay_30 : decode cX8_bestWay 30 = .ok (.iinc 3 1, 3) := by decide +kernel
theorem dX8_bestWay_33 : decode cX8_bestWay 33 = .ok (.goto (-29), 3) := by decide +kernel
theorem dX8_bestWay_36 : decode cX8_bestWay 36 = .ok (.iload_n 2, 1) := by decide +kernel
theorem dX8_bestWay_37 : decode cX8_bestWay 37 = .ok (.ireturn, 1) := by decide +kernel
theorem dX8_seconds_0 : decode cX8_seconds 0 = .ok (.aload_n 0, 1) := by decide +kernel
theorem dX8_seconds_1 : decode cX8_seconds 1 = .ok (.iload_n 1, 1) := by decide +kernel
theorem dX8_seconds_2 : decode cX8_seconds 2 = .ok (.invokevirtual 86, 3) := by decide +kernel
theorem dX8_seconds_5 : decode cX8_seconds 5 = .ok (.ifCond .eq 12, 3) := by decide +kernel
theorem dX8_seconds_8 : decode cX8_seconds 8 = .ok (.iload_n 2, 1) := by decide +kernel
theorem dX8_seconds_9 : decode cX8_seconds 9 = .ok (.iconst 0, 1) := by decide +kernel
theorem dX8_seconds_10 : decode cX8_seconds 10 = .ok (.iconst 2, 1) := by decide +kernel
theorem dX8_seconds_11 : decode cX8_seconds 11 = .ok (.invokestatic 57, 3) := by decide +kernel
theorem dX8_seconds_14 : decode cX8_seconds 14 = .ok (.ifCond .ne 10, 3) := by decide +kernel
theorem dX8_seconds_17 : decode cX8_seconds 17 = .ok (.aload_n 0, 1) := by decide +kernel
theorem dX8_seconds_18 : decode cX8_seconds 18 = .ok (.ldc 77, 2) := by decide +kernel
theorem dX8_seconds_20 : decode cX8_seconds 20 = .ok (.invokevirtual 78, 3) := by decide +kernel
theorem dX8_seconds_23 : decode cX8_seconds 23 = .ok (.ireturn, 1) := by decide +kernel
theorem dX8_seconds_24 : decode cX8_seconds 24 = .ok (.aload_n 0, 1) := by decide +kernel
theorem dX8_seconds_25 : decode cX8_seconds 25 = .ok (.iload_n 1, 1) := by decide +kernel
theorem dX8_seconds_26 : decode cX8_seconds 26 = .ok (.invokevirtual 89, 3) := by decide +kernel
theorem dX8_seconds_29 : decode cX8_seconds 29 = .ok (.bipush (-2), 2) := by decide +kernel
theorem dX8_seconds_31 : decode cX8_seconds 31 = .ok (.if_icmp .ne 12, 3) := by decide +kernel
theorem dX8_seconds_34 : decode cX8_seconds 34 = .ok (.aload_n 0, 1) := by decide +kernel
theorem dX8_seconds_35 : decode cX8_seconds 35 = .ok (.ldc 99, 2) := by decide +kernel
theorem dX8_seconds_37 : decode cX8_seconds 37 = .ok (.invokevirtual 78, 3) := by decide +kernel
theorem dX8_seconds_40 : decode cX8_seconds 40 = .ok (.goto 9, 3) := by decide +kernel
theorem dX8_seconds_43 : decode cX8_seconds 43 = .ok (.aload_n 0, 1) := by decide +kernel
theorem dX8_seconds_44 : decode cX8_seconds 44 = .ok (.iload_n 1, 1) := by decide +kernel
theorem dX8_seconds_45 : decode cX8_seconds 45 = .ok (.iload_n 2, 1) := by decide +kernel
theorem dX8_seconds_46 : decode cX8_seconds 46 = .ok (.invokevirtual 174, 3) := by decide +kernel
theorem dX8_seconds_49 : decode cX8_seconds 49 = .ok (.ireturn, 1) := by decide +kernel
theorem dX8_best_0 : decode cX8_best 0 = .ok (.aload_n 0, 1) := by decide +kernel
theorem dX8_best_1 : decode cX8_best 1 = .ok (.iload_n 1, 1) := by decide +kernel
theorem dX8_best_2 : decode cX8_best 2 = .ok (.invokevirtual 86, 3) := by decide +kernel
theorem dX8_best_5 : decode cX8_best 5 = .ok (.ifCond .eq 12, 3) := by decide +kernel
theorem dX8_best_8 : decode cX8_best 8 = .ok (.iload_n 2, 1) := by decide +kernel
theorem dX8_best_9 : decode cX8_best 9 = .ok (.iconst 0, 1) := by decide +kernel
theorem dX8_best_10 : decode cX8_best 10 = .ok (.iconst 1, 1) := by decide +kernel
theorem dX8_best_11 : decode cX8_best 11 = .ok (.invokestatic 57, 3) := by decide +kernel
theorem dX8_best_14 : decode cX8_best 14 = .ok (.ifCond .ne 10, 3) := by decide +kernel
theorem dX8_best_17 : decode cX8_best 17 = .ok (.aload_n 0, 1) := by decide +kernel
theorem dX8_best_18 : decode cX8_best 18 = .ok (.ldc 77, 2) := by decide +kernel
theorem dX8_best_20 : decode cX8_best 20 = .ok (.invokevirtual 78, 3) := by decide +kernel
theorem dX8_best_23 : decode cX8_best 23 = .ok (.ireturn, 1) := by decide +kernel
theorem dX8_best_24 : decode cX8_best 24 = .ok (.aload_n 0, 1) := by decide +kernel
theorem dX8_best_25 : decode cX8_best 25 = .ok (.iload_n 1, 1) := by decide +kernel
theorem dX8_best_26 : decode cX8_best 26 = .ok (.invokevirtual 89, 3) := by decide +kernel
theorem dX8_best_29 : decode cX8_best 29 = .ok (.bipush (-2), 2) := by decide +kernel
theorem dX8_best_31 : decode cX8_best 31 = .ok (.if_icmp .ne 10, 3) := by decide +kernel
theorem dX8_best_34 : decode cX8_best 34 = .ok (.aload_n 0, 1) := by decide +kernel
theorem dX8_best_35 : decode cX8_best 35 = .ok (.ldc 99, 2) := by decide +kernel
theorem dX8_best_37 : decode cX8_best 37 = .ok (.invokevirtual 78, 3) := by decide +kernel
theorem dX8_best_40 : decode cX8_best 40 = .ok (.ireturn, 1) := by decide +kernel
theorem dX8_best_41 : decode cX8_best 41 = .ok (.aload_n 0, 1) := by decide +kernel
theorem dX8_best_42 : decode cX8_best 42 = .ok (.iload_n 1, 1) := by decide +kernel
theorem dX8_best_43 : decode cX8_best 43 = .ok (.invokevirtual 177, 3) := by decide +kernel
theorem dX8_best_46 : decode cX8_best 46 = .ok (.istore_n 3, 1) := by decide +kernel
theorem dX8_best_47 : decode cX8_best 47 = .ok (.iload_n 2, 1) := by decide +kernel
theorem dX8_best_48 : decode cX8_best 48 = .ok (.ifCond .ne 7, 3) := by decide +kernel
theorem dX8_best_51 : decode cX8_best 51 = .ok (.iload_n 3, 1) := by decide +kernel
theorem dX8_best_52 : decode cX8_best 52 = .ok (.goto 9, 3) := by decide +kernel
theorem dX8_best_55 : decode cX8_best 55 = .ok (.aload_n 0, 1) := by decide +kernel
theorem dX8_best_56 : decode cX8_best 56 = .ok (.iload_n 1, 1) := by decide +kernel
theorem dX8_best_57 : decode cX8_best 57 = .ok (.iload_n 3, 1) := by decide +kernel
theorem dX8_best_58 : decode cX8_best 58 = .ok (.invokevirtual 174, 3) := by decide +kernel
theorem dX8_best_61 : decode cX8_best 61 = .ok (.ireturn, 1) := by decide +kernel
theorem dX8_turnsOver_0 : decode cX8_turnsOver 0 = .ok (.aload_n 0, 1) := by decide +kernel
theorem dX8_turnsOver_1 : decode cX8_turnsOver 1 = .ok (.getfield 9, 3) := by decide +kernel
theorem dX8_turnsOver_4 : decode cX8_turnsOver 4 = .ok (.iconst 3, 1) := by decide +kernel
theorem dX8_turnsOver_5 : decode cX8_turnsOver 5 = .ok (.iaload, 1) := by decide +kernel
theorem dX8_turnsOver_6 : decode cX8_turnsOver 6 = .ok (.istore_n 1, 1) := by decide +kernel
theorem dX8_turnsOver_7 : decode cX8_turnsOver 7 = .ok (.iconst 0, 1) := by decide +kernel
theorem dX8_turnsOver_8 : decode cX8_turnsOver 8 = .ok (.istore_n 2, 1) := by decide +kernel
theorem dX8_turnsOver_9 : decode cX8_turnsOver 9 = .ok (.iload_n 2, 1) := by decide +kernel
theorem dX8_turnsOver_10 : decode cX8_turnsOver 10 = .ok (.iload_n 1, 1) := by decide +kernel
theorem dX8_turnsOver_11 : decode cX8_turnsOver 11 = .ok (.iconst 2, 1) := by decide +kernel
theorem dX8_turnsOver_12 : decode cX8_turnsOver 12 = .ok (.idiv, 1) := by decide +kernel
theorem dX8_turnsOver_13 : decode cX8_turnsOver 13 = .ok (.if_icmp .ge 55, 3) := by decide +kernel
theorem dX8_turnsOver_16 : decode cX8_turnsOver 16 = .ok (.aload_n 0, 1) := by decide +kernel
theorem dX8_turnsOver_17 : decode cX8_turnsOver 17 = .ok (.getfield 9, 3) := by decide +kernel
theorem dX8_turnsOver_20 : decode cX8_turnsOver 20 = .ok (.bipush 8, 2) := by decide +kernel
theorem dX8_turnsOver_22 : decode cX8_turnsOver 22 = .ok (.iload_n 2, 1) := by decide +kernel
theorem dX8_turnsOver_23 : decode cX8_turnsOver 23 = .ok (.iadd, 1) := by decide +kernel
theorem dX8_turnsOver_24 : decode cX8_turnsOver 24 = .ok (.iaload, 1) := by decide +kernel
theorem dX8_turnsOver_25 : decode cX8_turnsOver 25 = .ok (.istore_n 3, 1) := by decide +kernel
theorem dX8_turnsOver_26 : decode cX8_turnsOver 26 = .ok (.aload_n 0, 1) := by decide +kernel
theorem dX8_turnsOver_27 : decode cX8_turnsOver 27 = .ok (.getfield 9, 3) := by decide +kernel
theorem dX8_turnsOver_30 : decode cX8_turnsOver 30 = .ok (.bipush 8, 2) := by decide +kernel
theorem dX8_turnsOver_32 : decode cX8_turnsOver 32 = .ok (.iload_n 2, 1) := by decide +kernel
theorem dX8_turnsOver_33 : decode cX8_turnsOver 33 = .ok (.iadd, 1) := by decide +kernel
theorem dX8_turnsOver_34 : decode cX8_turnsOver 34 = .ok (.aload_n 0, 1) := by decide +kernel
theorem dX8_turnsOver_35 : decode cX8_turnsOver 35 = .ok (.getfield 9, 3) := by decide +kernel
theorem dX8_turnsOver_38 : decode cX8_turnsOver 38 = .ok (.bipush 8, 2) := by decide +kernel
theorem dX8_turnsOver_40 : decode cX8_turnsOver 40 = .ok (.iload_n 1, 1) := by decide +kernel
theorem dX8_turnsOver_41 : decode cX8_turnsOver 41 = .ok (.iadd, 1) := by decide +kernel
theorem dX8_turnsOver_42 : decode cX8_turnsOver 42 = .ok (.iconst 1, 1) := by decide +kernel
theorem dX8_turnsOver_43 : decode cX8_turnsOver 43 = .ok (.isub, 1) := by decide +kernel
theorem dX8_turnsOver_44 : decode cX8_turnsOver 44 = .ok (.iload_n 2, 1) := by decide +kernel
theorem dX8_turnsOver_45 : decode cX8_turnsOver 45 = .ok (.isub, 1) := by decide +kernel
theorem dX8_turnsOver_46 : decode cX8_turnsOver 46 = .ok (.iaload, 1) := by decide +kernel
theorem dX8_turnsOver_47 : decode cX8_turnsOver 47 = .ok (.iastore, 1) := by decide +kernel
theorem dX8_turnsOver_48 : decode cX8_turnsOver 48 = .ok (.aload_n 0, 1) := by decide +kernel
theorem dX8_turnsOver_49 : decode cX8_turnsOver 49 = .ok (.getfield 9, 3) := by decide +kernel
theorem dX8_turnsOver_52 : decode cX8_turnsOver 52 = .ok (.bipush 8, 2) := by decide +kernel
theorem dX8_turnsOver_54 : decode cX8_turnsOver 54 = .ok (.iload_n 1, 1) := by decide +kernel
theorem dX8_turnsOver_55 : decode cX8_turnsOver 55 = .ok (.iadd, 1) := by decide +kernel
theorem dX8_turnsOver_56 : decode cX8_turnsOver 56 = .ok (.iconst 1, 1) := by decide +kernel
theorem dX8_turnsOver_57 : decode cX8_turnsOver 57 = .ok (.isub, 1) := by decide +kernel
theorem dX8_turnsOver_58 : decode cX8_turnsOver 58 = .ok (.iload_n 2, 1) := by decide +kernel
theorem dX8_turnsOver_59 : decode cX8_turnsOver 59 = .ok (.isub, 1) := by decide +kernel
theorem dX8_turnsOver_60 : decode cX8_turnsOver 60 = .ok (.iload_n 3, 1) := by decide +kernel
theorem dX8_turnsOver_61 : decode cX8_turnsOver 61 = .ok (.iastore, 1) := by decide +kernel
theorem dX8_turnsOver_62 : decode cX8_turnsOver 62 = .ok (.iinc 2 1, 3) := by decide +kernel
theorem dX8_turnsOver_65 : decode cX8_turnsOver 65 = .ok (.goto (-56), 3) := by decide +kernel
theorem dX8_turnsOver_68 : decode cX8_turnsOver 68 = .ok (.return_, 1) := by decide +kernel
theorem dX8_taken_0 : decode cX8_taken 0 = .ok (.aload_n 0, 1) := by decide +kernel
theorem dX8_taken_1 : decode cX8_taken 1 = .ok (.iload_n 1, 1) := by decide +kernel
theorem dX8_taken_2 : decode cX8_taken 2 = .ok (.iload_n 2, 1) := by decide +kernel
theorem dX8_taken_3 : decode cX8_taken 3 = .ok (.invokevirtual 174, 3) := by decide +kernel
theorem dX8_taken_6 : decode cX8_taken 6 = .ok (.istore_n 3, 1) := by decide +kernel
theorem dX8_taken_7 : decode cX8_taken 7 = .ok (.aload_n 0, 1) := by decide +kernel
theorem dX8_taken_8 : decode cX8_taken 8 = .ok (.getfield 9, 3) := by decide +kernel
theorem dX8_taken_11 : decode cX8_taken 11 = .ok (.iconst 1, 1) := by decide +kernel
theorem dX8_taken_12 : decode cX8_taken 12 = .ok (.aload_n 0, 1) := by decide +kernel
theorem dX8_taken_13 : decode cX8_taken 13 = .ok (.getfield 9, 3) := by decide +kernel
theorem dX8_taken_16 : decode cX8_taken 16 = .ok (.iconst 1, 1) := by decide +kernel
theorem dX8_taken_17 : decode cX8_taken 17 = .ok (.iaload, 1) := by decide +kernel
theorem dX8_taken_18 : decode cX8_taken 18 = .ok (.iload_n 3, 1) := by decide +kernel
theorem dX8_taken_19 : decode cX8_taken 19 = .ok (.iadd, 1) := by decide +kernel
theorem dX8_taken_20 : decode cX8_taken 20 = .ok (.iconst 0, 1) := by decide +kernel
theorem dX8_taken_21 : decode cX8_taken 21 = .ok (.ldc 180, 2) := by decide +kernel
theorem dX8_taken_23 : decode cX8_taken 23 = .ok (.invokestatic 164, 3) := by decide +kernel
theorem dX8_taken_26 : decode cX8_taken 26 = .ok (.iastore, 1) := by decide +kernel
theorem dX8_taken_27 : decode cX8_taken 27 = .ok (.aload_n 0, 1) := by decide +kernel
theorem dX8_taken_28 : decode cX8_taken 28 = .ok (.iload_n 1, 1) := by decide +kernel
theorem dX8_taken_29 : decode cX8_taken 29 = .ok (.invokevirtual 89, 3) := by decide +kernel
theorem dX8_taken_32 : decode cX8_taken 32 = .ok (.ifCond .lt 26, 3) := by decide +kernel
theorem dX8_taken_35 : decode cX8_taken 35 = .ok (.iload_n 2, 1) := by decide +kernel
theorem dX8_taken_36 : decode cX8_taken 36 = .ok (.iconst 2, 1) := by decide +kernel
theorem dX8_taken_37 : decode cX8_taken 37 = .ok (.if_icmp .ne 7, 3) := by decide +kernel
theorem dX8_taken_40 : decode cX8_taken 40 = .ok (.aload_n 0, 1) := by decide +kernel
theorem dX8_taken_41 : decode cX8_taken 41 = .ok (.invokevirtual 181, 3) := by decide +kernel
theorem dX8_taken_44 : decode cX8_taken 44 = .ok (.aload_n 0, 1) := by decide +kernel
theorem dX8_taken_45 : decode cX8_taken 45 = .ok (.aload_n 0, 1) := by decide +kernel
theorem dX8_taken_46 : decode cX8_taken 46 = .ok (.iload_n 1, 1) := by decide +kernel
theorem dX8_taken_47 : decode cX8_taken 47 = .ok (.invokevirtual 89, 3) := by decide +kernel
theorem dX8_taken_50 : decode cX8_taken 50 = .ok (.invokevirtual 100, 3) := by decide +kernel
theorem dX8_taken_53 : decode cX8_taken 53 = .ok (.aload_n 0, 1) := by decide +kernel
theorem dX8_taken_54 : decode cX8_taken 54 = .ok (.iload_n 1, 1) := by decide +kernel
theorem dX8_taken_55 : decode cX8_taken 55 = .ok (.invokevirtual 82, 3) := by decide +kernel
theorem dX8_taken_58 : decode cX8_taken 58 = .ok (.iload_n 3, 1) := by decide +kernel
theorem dX8_taken_59 : decode cX8_taken 59 = .ok (.ireturn, 1) := by decide +kernel
theorem dX8_takes_0 : decode cX8_takes 0 = .ok (.aload_n 0, 1) := by decide +kernel
theorem dX8_takes_1 : decode cX8_takes 1 = .ok (.iload_n 1, 1) := by decide +kernel
theorem dX8_takes_2 : decode cX8_takes 2 = .ok (.invokevirtual 86, 3) := by decide +kernel
theorem dX8_takes_5 : decode cX8_takes 5 = .ok (.ifCond .eq 12, 3) := by decide +kernel
theorem dX8_takes_8 : decode cX8_takes 8 = .ok (.iload_n 2, 1) := by decide +kernel
theorem dX8_takes_9 : decode cX8_takes 9 = .ok (.iconst 0, 1) := by decide +kernel
theorem dX8_takes_10 : decode cX8_takes 10 = .ok (.iconst 2, 1) := by decide +kernel
theorem dX8_takes_11 : decode cX8_takes 11 = .ok (.invokestatic 57, 3) := by decide +kernel
theorem dX8_takes_14 : decode cX8_takes 14 = .ok (.ifCond .ne 10, 3) := by decide +kernel
theorem dX8_takes_17 : decode cX8_takes 17 = .ok (.aload_n 0, 1) := by decide +kernel
theorem dX8_takes_18 : decode cX8_takes 18 = .ok (.ldc 77, 2) := by decide +kernel
theorem dX8_takes_20 : decode cX8_takes 20 = .ok (.invokevirtual 78, 3) := by decide +kernel
theorem dX8_takes_23 : decode cX8_takes 23 = .ok (.ireturn, 1) := by decide +kernel
theorem dX8_takes_24 : decode cX8_takes 24 = .ok (.aload_n 0, 1) := by decide +kernel
theorem dX8_takes_25 : decode cX8_takes 25 = .ok (.iload_n 1, 1) := by decide +kernel
theorem dX8_takes_26 : decode cX8_takes 26 = .ok (.invokevirtual 89, 3) := by decide +kernel
theorem dX8_takes_29 : decode cX8_takes 29 = .ok (.bipush (-2), 2) := by decide +kernel
theorem dX8_takes_31 : decode cX8_takes 31 = .ok (.if_icmp .ne 12, 3) := by decide +kernel
theorem dX8_takes_34 : decode cX8_takes 34 = .ok (.aload_n 0, 1) := by decide +kernel
theorem dX8_takes_35 : decode cX8_takes 35 = .ok (.ldc 99, 2) := by decide +kernel
theorem dX8_takes_37 : decode cX8_takes 37 = .ok (.invokevirtual 78, 3) := by decide +kernel
theorem dX8_takes_40 : decode cX8_takes 40 = .ok (.goto 9, 3) := by decide +kernel
theorem dX8_takes_43 : decode cX8_takes 43 = .ok (.aload_n 0, 1) := by decide +kernel
theorem dX8_takes_44 : decode cX8_takes 44 = .ok (.iload_n 1, 1) := by decide +kernel
theorem dX8_takes_45 : decode cX8_takes 45 = .ok (.iload_n 2, 1) := by decide +kernel
theorem dX8_takes_46 : decode cX8_takes 46 = .ok (.invokevirtual 184, 3) := by decide +kernel
theorem dX8_takes_49 : decode cX8_takes 49 = .ok (.ireturn, 1) := by decide +kernel
theorem dX8_walks_0 : decode cX8_walks 0 = .ok (.iload_n 1, 1) := by decide +kernel
theorem dX8_walks_1 : decode cX8_walks 1 = .ok (.iconst 1, 1) := by decide +kernel
theorem dX8_walks_2 : decode cX8_walks 2 = .ok (.bipush 100, 2) := by decide +kernel
theorem dX8_walks_4 : decode cX8_walks 4 = .ok (.invokestatic 57, 3) := by decide +kernel
theorem dX8_walks_7 : decode cX8_walks 7 = .ok (.ifCond .ne 10, 3) := by decide +kernel
theorem dX8_walks_10 : decode cX8_walks 10 = .ok (.aload_n 0, 1) := by decide +kernel
theorem dX8_walks_11 : decode cX8_walks 11 = .ok (.ldc 77, 2) := by decide +kernel
theorem dX8_walks_13 : decode cX8_walks 13 = .ok (.invokevirtual 78, 3) := by decide +kernel
theorem dX8_walks_16 : decode cX8_walks 16 = .ok (.ireturn, 1) := by decide +kernel
theorem dX8_walks_17 : decode cX8_walks 17 = .ok (.aload_n 0, 1) := by decide +kernel
theorem dX8_walks_18 : decode cX8_walks 18 = .ok (.getfield 9, 3) := by decide +kernel
theorem dX8_walks_21 : decode cX8_walks 21 = .ok (.iconst 0, 1) := by decide +kernel
theorem dX8_walks_22 : decode cX8_walks 22 = .ok (.iaload, 1) := by decide +kernel
theorem dX8_walks_23 : decode cX8_walks 23 = .ok (.iload_n 1, 1) := by decide +kernel
theorem dX8_walks_24 : decode cX8_walks 24 = .ok (.iadd, 1) := by decide +kernel
theorem dX8_walks_25 : decode cX8_walks 25 = .ok (.sipush 9999, 3) := by decide +kernel
theorem dX8_walks_28 : decode cX8_walks 28 = .ok (.if_icmp .le 10, 3) := by decide +kernel
theorem dX8_walks_31 : decode cX8_walks 31 = .ok (.aload_n 0, 1) := by decide +kernel
theorem dX8_walks_32 : decode cX8_walks 32 = .ok (.ldc 99, 2) := by decide +kernel
theorem dX8_walks_34 : decode cX8_walks 34 = .ok (.invokevirtual 78, 3) := by decide +kernel
theorem dX8_walks_37 : decode cX8_walks 37 = .ok (.ireturn, 1) := by decide +kernel
theorem dX8_walks_38 : decode cX8_walks 38 = .ok (.aload_n 0, 1) := by decide +kernel
theorem dX8_walks_39 : decode cX8_walks 39 = .ok (.iload_n 1, 1) := by decide +kernel
theorem dX8_walks_40 : decode cX8_walks 40 = .ok (.invokevirtual 187, 3) := by decide +kernel
theorem dX8_walks_43 : decode cX8_walks 43 = .ok (.aload_n 0, 1) := by decide +kernel
theorem dX8_walks_44 : decode cX8_walks 44 = .ok (.getfield 9, 3) := by decide +kernel
theorem dX8_walks_47 : decode cX8_walks 47 = .ok (.iconst 0, 1) := by decide +kernel
theorem dX8_walks_48 : decode cX8_walks 48 = .ok (.iaload, 1) := by decide +kernel
theorem dX8_walks_49 : decode cX8_walks 49 = .ok (.ireturn, 1) := by decide +kernel
theorem dX8_draw_0 : decode cX8_draw 0 = .ok (.aload_n 0, 1) := by decide +kernel
theorem dX8_draw_1 : decode cX8_draw 1 = .ok (.getfield 9, 3) := by decide +kernel
theorem dX8_draw_4 : decode cX8_draw 4 = .ok (.bipush 7, 2) := by decide +kernel
theorem dX8_draw_6 : decode cX8_draw 6 = .ok (.aload_n 0, 1) := by decide +kernel
theorem dX8_draw_7 : decode cX8_draw 7 = .ok (.getfield 9, 3) := by decide +kernel
theorem dX8_draw_10 : decode cX8_draw 10 = .ok (.bipush 7, 2) := by decide +kernel
theorem dX8_draw_12 : decode cX8_draw 12 = .ok (.iaload, 1) := by decide +kernel
theorem dX8_draw_13 : decode cX8_draw 13 = .ok (.ldc 190, 2) := by decide +kernel
theorem dX8_draw_15 : decode cX8_draw 15 = .ok (.imul, 1) := by decide +kernel
theorem dX8_draw_16 : decode cX8_draw 16 = .ok (.sipush 12345, 3) := by decide +kernel
theorem dX8_draw_19 : decode cX8_draw 19 = .ok (.iadd, 1) := by decide +kernel
theorem dX8_draw_20 : decode cX8_draw 20 = .ok (.iastore, 1) := by decide +kernel
theorem dX8_draw_21 : decode cX8_draw 21 = .ok (.aload_n 0, 1) := by decide +kernel
theorem dX8_draw_22 : decode cX8_draw 22 = .ok (.getfield 9, 3) := by decide +kernel
theorem dX8_draw_25 : decode cX8_draw 25 = .ok (.bipush 7, 2) := by decide +kernel
theorem dX8_draw_27 : decode cX8_draw 27 = .ok (.iaload, 1) := by decide +kernel
theorem dX8_draw_28 : decode cX8_draw 28 = .ok (.bipush 8, 2) := by decide +kernel
theorem dX8_draw_30 : decode cX8_draw 30 = .ok (.iushr, 1) := by decide +kernel
theorem dX8_draw_31 : decode cX8_draw 31 = .ok (.ireturn, 1) := by decide +kernel
theorem dX8_drawn_0 : decode cX8_drawn 0 = .ok (.aload_n 0, 1) := by decide +kernel
theorem dX8_drawn_1 : decode cX8_drawn 1 = .ok (.getfield 9, 3) := by decide +kernel
theorem dX8_drawn_4 : decode cX8_drawn 4 = .ok (.iconst 2, 1) := by decide +kernel
theorem dX8_drawn_5 : decode cX8_drawn 5 = .ok (.iaload, 1) := by decide +kernel
theorem dX8_drawn_6 : decode cX8_drawn 6 = .ok (.ifCond .le 17, 3) := by decide +kernel
theorem dX8_drawn_9 : decode cX8_drawn 9 = .ok (.aload_n 0, 1) := by decide +kernel
theorem dX8_drawn_10 : decode cX8_drawn 10 = .ok (.invokevirtual 191, 3) := by decide +kernel
theorem dX8_drawn_13 : decode cX8_drawn 13 = .ok (.aload_n 0, 1) := by decide +kernel
theorem dX8_drawn_14 : decode cX8_drawn 14 = .ok (.getfield 9, 3) := by decide +kernel
theorem dX8_drawn_17 : decode cX8_drawn 17 = .ok (.iconst 2, 1) := by decide +kernel
theorem dX8_drawn_18 : decode cX8_drawn 18 = .ok (.iaload, 1) := by decide +kernel
theorem dX8_drawn_19 : decode cX8_drawn 19 = .ok (.irem, 1) := by decide +kernel
theorem dX8_drawn_20 : decode cX8_drawn 20 = .ok (.goto 4, 3) := by decide +kernel
theorem dX8_drawn_23 : decode cX8_drawn 23 = .ok (.iconst (-1), 1) := by decide +kernel
theorem dX8_drawn_24 : decode cX8_drawn 24 = .ok (.istore_n 1, 1) := by decide +kernel
theorem dX8_drawn_25 : decode cX8_drawn 25 = .ok (.iload_n 1, 1) := by decide +kernel
theorem dX8_drawn_26 : decode cX8_drawn 26 = .ok (.ifCond .lt 24, 3) := by decide +kernel
theorem dX8_drawn_29 : decode cX8_drawn 29 = .ok (.aload_n 0, 1) := by decide +kernel
theorem dX8_drawn_30 : decode cX8_drawn 30 = .ok (.iload_n 1, 1) := by decide +kernel
theorem dX8_drawn_31 : decode cX8_drawn 31 = .ok (.invokevirtual 89, 3) := by decide +kernel
theorem dX8_drawn_34 : decode cX8_drawn 34 = .ok (.bipush (-2), 2) := by decide +kernel
theorem dX8_drawn_36 : decode cX8_drawn 36 = .ok (.if_icmp .eq 14, 3) := by decide +kernel
theorem dX8_drawn_39 : decode cX8_drawn 39 = .ok (.aload_n 0, 1) := by decide +kernel
theorem dX8_drawn_40 : decode cX8_drawn 40 = .ok (.iload_n 1, 1) := by decide +kernel
theorem dX8_drawn_41 : decode cX8_drawn 41 = .ok (.aload_n 0, 1) := by decide +kernel
theorem dX8_drawn_42 : decode cX8_drawn 42 = .ok (.iload_n 1, 1) := by decide +kernel
theorem dX8_drawn_43 : decode cX8_drawn 43 = .ok (.invokevirtual 177, 3) := by decide +kernel
theorem dX8_drawn_46 : decode cX8_drawn 46 = .ok (.invokevirtual 184, 3) := by decide +kernel
theorem dX8_drawn_49 : decode cX8_drawn 49 = .ok (.istore_n 2, 1) := by decide +kernel
theorem dX8_drawn_50 : decode cX8_drawn 50 = .ok (.aload_n 0, 1) := by decide +kernel
theorem dX8_drawn_51 : decode cX8_drawn 51 = .ok (.iconst 1, 1) := by decide +kernel
theorem dX8_drawn_52 : decode cX8_drawn 52 = .ok (.aload_n 0, 1) := by decide +kernel
theorem dX8_drawn_53 : decode cX8_drawn 53 = .ok (.invokevirtual 191, 3) := by decide +kernel
theorem dX8_drawn_56 : decode cX8_drawn 56 = .ok (.iconst 3, 1) := by decide +kernel
theorem dX8_drawn_57 : decode cX8_drawn 57 = .ok (.irem, 1) := by decide +kernel
theorem dX8_drawn_58 : decode cX8_drawn 58 = .ok (.iadd, 1) := by decide +kernel
theorem dX8_drawn_59 : decode cX8_drawn 59 = .ok (.invokevirtual 187, 3) := by decide +kernel
theorem dX8_drawn_62 : decode cX8_drawn 62 = .ok (.return_, 1) := by decide +kernel
theorem dX8_loose_0 : decode cX8_loose 0 = .ok (.iload_n 1, 1) := by decide +kernel
theorem dX8_loose_1 : decode cX8_loose 1 = .ok (.iconst 1, 1) := by decide +kernel
theorem dX8_loose_2 : decode cX8_loose 2 = .ok (.bipush 20, 2) := by decide +kernel
theorem dX8_loose_4 : decode cX8_loose 4 = .ok (.invokestatic 57, 3) := by decide +kernel
theorem dX8_loose_7 : decode cX8_loose 7 = .ok (.ifCond .ne 10, 3) := by decide +kernel
theorem dX8_loose_10 : decode cX8_loose 10 = .ok (.aload_n 0, 1) := by decide +kernel
theorem dX8_loose_11 : decode cX8_loose 11 = .ok (.ldc 77, 2) := by decide +kernel
theorem dX8_loose_13 : decode cX8_loose 13 = .ok (.invokevirtual 78, 3) := by decide +kernel
theorem dX8_loose_16 : decode cX8_loose 16 = .ok (.ireturn, 1) := by decide +kernel
theorem dX8_loose_17 : decode cX8_loose 17 = .ok (.aload_n 0, 1) := by decide +kernel
theorem dX8_loose_18 : decode cX8_loose 18 = .ok (.getfield 9, 3) := by decide +kernel
theorem dX8_loose_21 : decode cX8_loose 21 = .ok (.iconst 0, 1) := by decide +kernel
theorem dX8_loose_22 : decode cX8_loose 22 = .ok (.iaload, 1) := by decide +kernel
theorem dX8_loose_23 : decode cX8_loose 23 = .ok (.iconst 3, 1) := by decide +kernel
theorem dX8_loose_24 : decode cX8_loose 24 = .ok (.iload_n 1, 1) := by decide +kernel
theorem dX8_loose_25 : decode cX8_loose 25 = .ok (.imul, 1) := by decide +kernel
theorem dX8_loose_26 : decode cX8_loose 26 = .ok (.iadd, 1) := by decide +kernel
theorem dX8_loose_27 : decode cX8_loose 27 = .ok (.sipush 9999, 3) := by decide +kernel
theorem dX8_loose_30 : decode cX8_loose 30 = .ok (.if_icmp .le 10, 3) := by decide +kernel
theorem dX8_loose_33 : decode cX8_loose 33 = .ok (.aload_n 0, 1) := by decide +kernel
theorem dX8_loose_34 : decode cX8_loose 34 = .ok (.ldc 99, 2) := by decide +kernel
theorem dX8_loose_36 : decode cX8_loose 36 = .ok (.invokevirtual 78, 3) := by decide +kernel
theorem dX8_loose_39 : decode cX8_loose 39 = .ok (.ireturn, 1) := by decide +kernel
theorem dX8_loose_40 : decode cX8_loose 40 = .ok (.iconst 0, 1) := by decide +kernel
theorem dX8_loose_41 : decode cX8_loose 41 = .ok (.istore_n 2, 1) := by decide +kernel
theorem dX8_loose_42 : decode cX8_loose 42 = .ok (.iload_n 2, 1) := by decide +kernel
theorem dX8_loose_43 : decode cX8_loose 43 = .ok (.iload_n 1, 1) := by decide +kernel
theorem dX8_loose_44 : decode cX8_loose 44 = .ok (.if_icmp .ge 13, 3) := by decide +kernel
theorem dX8_loose_47 : decode cX8_loose 47 = .ok (.aload_n 0, 1) := by decide +kernel
theorem dX8_loose_48 : decode cX8_loose 48 = .ok (.invokevirtual 194, 3) := by decide +kernel
theorem dX8_loose_51 : decode cX8_loose 51 = .ok (.iinc 2 1, 3) := by decide +kernel
theorem dX8_loose_54 : decode cX8_loose 54 = .ok (.goto (-12), 3) := by decide +kernel
theorem dX8_loose_57 : decode cX8_loose 57 = .ok (.aload_n 0, 1) := by decide +kernel
theorem dX8_loose_58 : decode cX8_loose 58 = .ok (.getfield 9, 3) := by decide +kernel
theorem dX8_loose_61 : decode cX8_loose 61 = .ok (.iconst 1, 1) := by decide +kernel
theorem dX8_loose_62 : decode cX8_loose 62 = .ok (.iaload, 1) := by decide +kernel
theorem dX8_loose_63 : decode cX8_loose 63 = .ok (.ireturn, 1) := by decide +kernel
theorem dX8_seed_0 : decode cX8_seed 0 = .ok (.aload_n 0, 1) := by decide +kernel
theorem dX8_seed_1 : decode cX8_seed 1 = .ok (.bipush 7, 2) := by decide +kernel
theorem dX8_seed_3 : decode cX8_seed 3 = .ok (.iload_n 1, 1) := by decide +kernel
theorem dX8_seed_4 : decode cX8_seed 4 = .ok (.invokevirtual 95, 3) := by decide +kernel
theorem dX8_seed_7 : decode cX8_seed 7 = .ok (.ireturn, 1) := by decide +kernel
theorem dX8_then_0 : decode cX8_then 0 = .ok (.aload_n 0, 1) := by decide +kernel
theorem dX8_then_1 : decode cX8_then 1 = .ok (.iload_n 1, 1) := by decide +kernel
theorem dX8_then_2 : decode cX8_then 2 = .ok (.invokevirtual 86, 3) := by decide +kernel
theorem dX8_then_5 : decode cX8_then 5 = .ok (.ifCond .eq 13, 3) := by decide +kernel
theorem dX8_then_8 : decode cX8_then 8 = .ok (.iload_n 2, 1) := by decide +kernel
theorem dX8_then_9 : decode cX8_then 9 = .ok (.iconst 0, 1) := by decide +kernel
theorem dX8_then_10 : decode cX8_then 10 = .ok (.bipush 100, 2) := by decide +kernel
theorem dX8_then_12 : decode cX8_then 12 = .ok (.invokestatic 57, 3) := by decide +kernel
theorem dX8_then_15 : decode cX8_then 15 = .ok (.ifCond .ne 10, 3) := by decide +kernel
theorem dX8_then_18 : decode cX8_then 18 = .ok (.aload_n 0, 1) := by decide +kernel
theorem dX8_then_19 : decode cX8_then 19 = .ok (.ldc 77, 2) := by decide +kernel
theorem dX8_then_21 : decode cX8_then 21 = .ok (.invokevirtual 78, 3) := by decide +kernel
theorem dX8_then_24 : decode cX8_then 24 = .ok (.ireturn, 1) := by decide +kernel
theorem dX8_then_25 : decode cX8_then 25 = .ok (.aload_n 0, 1) := by decide +kernel
theorem dX8_then_26 : decode cX8_then 26 = .ok (.invokevirtual 197, 3) := by decide +kernel
theorem dX8_then_29 : decode cX8_then 29 = .ok (.aload_n 0, 1) := by decide +kernel
theorem dX8_then_30 : decode cX8_then 30 = .ok (.iload_n 2, 1) := by decide +kernel
theorem dX8_then_31 : decode cX8_then 31 = .ok (.invokevirtual 187, 3) := by decide +kernel
theorem dX8_then_34 : decode cX8_then 34 = .ok (.aload_n 0, 1) := by decide +kernel
theorem dX8_then_35 : decode cX8_then 35 = .ok (.iload_n 1, 1) := by decide +kernel
theorem dX8_then_36 : decode cX8_then 36 = .ok (.invokevirtual 89, 3) := by decide +kernel
theorem dX8_then_39 : decode cX8_then 39 = .ok (.istore_n 3, 1) := by decide +kernel
theorem dX8_then_40 : decode cX8_then 40 = .ok (.aload_n 0, 1) := by decide +kernel
theorem dX8_then_41 : decode cX8_then 41 = .ok (.invokevirtual 200, 3) := by decide +kernel
theorem dX8_then_44 : decode cX8_then 44 = .ok (.iload_n 3, 1) := by decide +kernel
theorem dX8_then_45 : decode cX8_then 45 = .ok (.ireturn, 1) := by decide +kernel
theorem dX8_settles_0 : decode cX8_settles 0 = .ok (.aload_n 0, 1) := by decide +kernel
theorem dX8_settles_1 : decode cX8_settles 1 = .ok (.invokevirtual 197, 3) := by decide +kernel
theorem dX8_settles_4 : decode cX8_settles 4 = .ok (.iconst 0, 1) := by decide +kernel
theorem dX8_settles_5 : decode cX8_settles 5 = .ok (.istore_n 1, 1) := by decide +kernel
theorem dX8_settles_6 : decode cX8_settles 6 = .ok (.iload_n 1, 1) := by decide +kernel
theorem dX8_settles_7 : decode cX8_settles 7 = .ok (.bipush 99, 2) := by decide +kernel
theorem dX8_settles_9 : decode cX8_settles 9 = .ok (.if_icmp .gt 16, 3) := by decide +kernel
theorem dX8_settles_12 : decode cX8_settles 12 = .ok (.aload_n 0, 1) := by decide +kernel
theorem dX8_settles_13 : decode cX8_settles 13 = .ok (.invokevirtual 69, 3) := by decide +kernel
theorem dX8_settles_16 : decode cX8_settles 16 = .ok (.ifCond .eq 9, 3) := by decide +kernel
theorem dX8_settles_19 : decode cX8_settles 19 = .ok (.iinc 1 1, 3) := by decide +kernel
theorem dX8_settles_22 : decode cX8_settles 22 = .ok (.goto (-16), 3) := by decide +kernel
theorem dX8_settles_25 : decode cX8_settles 25 = .ok (.aload_n 0, 1) := by decide +kernel
theorem dX8_settles_26 : decode cX8_settles 26 = .ok (.invokevirtual 200, 3) := by decide +kernel
theorem dX8_settles_29 : decode cX8_settles 29 = .ok (.iload_n 1, 1) := by decide +kernel
theorem dX8_settles_30 : decode cX8_settles 30 = .ok (.bipush 99, 2) := by decide +kernel
theorem dX8_settles_32 : decode cX8_settles 32 = .ok (.if_icmp .le 12, 3) := by decide +kernel
theorem dX8_settles_35 : decode cX8_settles 35 = .ok (.aload_n 0, 1) := by decide +kernel
theorem dX8_settles_36 : decode cX8_settles 36 = .ok (.ldc 203, 2) := by decide +kernel
theorem dX8_settles_38 : decode cX8_settles 38 = .ok (.invokevirtual 78, 3) := by decide +kernel
theorem dX8_settles_41 : decode cX8_settles 41 = .ok (.goto 4, 3) := by decide +kernel
theorem dX8_settles_44 : decode cX8_settles 44 = .ok (.iload_n 1, 1) := by decide +kernel
theorem dX8_settles_45 : decode cX8_settles 45 = .ok (.ireturn, 1) := by decide +kernel
theorem dX8_packing_0 : decode cX8_packing 0 = .ok (.aload_n 0, 1) := by decide +kernel
theorem dX8_packing_1 : decode cX8_packing 1 = .ok (.getfield 9, 3) := by decide +kernel
theorem dX8_packing_4 : decode cX8_packing 4 = .ok (.iconst 0, 1) := by decide +kernel
theorem dX8_packing_5 : decode cX8_packing 5 = .ok (.iaload, 1) := by decide +kernel
theorem dX8_packing_6 : decode cX8_packing 6 = .ok (.istore_n 2, 1) := by decide +kernel
theorem dX8_packing_7 : decode cX8_packing 7 = .ok (.iconst 0, 1) := by decide +kernel
theorem dX8_packing_8 : decode cX8_packing 8 = .ok (.istore_n 3, 1) := by decide +kernel
theorem dX8_packing_9 : decode cX8_packing 9 = .ok (.iload_n 3, 1) := by decide +kernel
theorem dX8_packing_10 : decode cX8_packing 10 = .ok (.aload_n 0, 1) := by decide +kernel
theorem dX8_packing_11 : decode cX8_packing 11 = .ok (.getfield 9, 3) := by decide +kernel
theorem dX8_packing_14 : decode cX8_packing 14 = .ok (.iconst 3, 1) := by decide +kernel
theorem dX8_packing_15 : decode cX8_packing 15 = .ok (.iaload, 1) := by decide +kernel
theorem dX8_packing_16 : decode cX8_packing 16 = .ok (.if_icmp .ge 24, 3) := by decide +kernel
theorem dX8_packing_19 : decode cX8_packing 19 = .ok (.aload_n 0, 1) := by decide +kernel
theorem dX8_packing_20 : decode cX8_packing 20 = .ok (.getfield 9, 3) := by decide +kernel
theorem dX8_packing_23 : decode cX8_packing 23 = .ok (.bipush 8, 2) := by decide +kernel
theorem dX8_packing_25 : decode cX8_packing 25 = .ok (.iload_n 3, 1) := by decide +kernel
theorem dX8_packing_26 : decode cX8_packing 26 = .ok (.iadd, 1) := by decide +kernel
theorem dX8_packing_27 : decode cX8_packing 27 = .ok (.aload_n 0, 1) := by decide +kernel
theorem dX8_packing_28 : decode cX8_packing 28 = .ok (.getfield 46, 3) := by decide +kernel
theorem dX8_packing_31 : decode cX8_packing 31 = .ok (.iload_n 3, 1) := by decide +kernel
theorem dX8_packing_32 : decode cX8_packing 32 = .ok (.iaload, 1) := by decide +kernel
theorem dX8_packing_33 : decode cX8_packing 33 = .ok (.iastore, 1) := by decide +kernel
theorem dX8_packing_34 : decode cX8_packing 34 = .ok (.iinc 3 1, 3) := by decide +kernel
theorem dX8_packing_37 : decode cX8_packing 37 = .ok (.goto (-28), 3) := by decide +kernel
theorem dX8_packing_40 : decode cX8_packing 40 = .ok (.aload_n 0, 1) := by decide +kernel
theorem dX8_packing_41 : decode cX8_packing 41 = .ok (.iload_n 1, 1) := by decide +kernel
theorem dX8_packing_42 : decode cX8_packing 42 = .ok (.invokevirtual 187, 3) := by decide +kernel
theorem dX8_packing_45 : decode cX8_packing 45 = .ok (.iconst 0, 1) := by decide +kernel
theorem dX8_packing_46 : decode cX8_packing 46 = .ok (.istore_n 3, 1) := by decide +kernel
theorem dX8_packing_47 : decode cX8_packing 47 = .ok (.iconst 0, 1) := by decide +kernel
theorem dX8_packing_48 : decode cX8_packing 48 = .ok (.istore 4, 2) := by decide +kernel
theorem dX8_packing_50 : decode cX8_packing 50 = .ok (.iload 4, 2) := by decide +kernel
theorem dX8_packing_52 : decode cX8_packing 52 = .ok (.aload_n 0, 1) := by decide +kernel
theorem dX8_packing_53 : decode cX8_packing 53 = .ok (.getfield 9, 3) := by decide +kernel
theorem dX8_packing_56 : decode cX8_packing 56 = .ok (.iconst 3, 1) := by decide +kernel
theorem dX8_packing_57 : decode cX8_packing 57 = .ok (.iaload, 1) := by decide +kernel
theorem dX8_packing_58 : decode cX8_packing 58 = .ok (.if_icmp .ge 33, 3) := by decide +kernel
theorem dX8_packing_61 : decode cX8_packing 61 = .ok (.iload_n 3, 1) := by decide +kernel
theorem dX8_packing_62 : decode cX8_packing 62 = .ok (.aload_n 0, 1) := by decide +kernel
theorem dX8_packing_63 : decode cX8_packing 63 = .ok (.aload_n 0, 1) := by decide +kernel
theorem dX8_packing_64 : decode cX8_packing 64 = .ok (.getfield 9, 3) := by decide +kernel
theorem dX8_packing_67 : decode cX8_packing 67 = .ok (.bipush 8, 2) := by decide +kernel
theorem dX8_packing_69 : decode cX8_packing 69 = .ok (.iload 4, 2) := by decide +kernel
theorem dX8_packing_71 : decode cX8_packing 71 = .ok (.iadd, 1) := by decide +kernel
theorem dX8_packing_72 : decode cX8_packing 72 = .ok (.iaload, 1) := by decide +kernel
theorem dX8_packing_73 : decode cX8_packing 73 = .ok (.invokevirtual 204, 3) := by decide +kernel
theorem dX8_packing_76 : decode cX8_packing 76 = .ok (.aload_n 0, 1) := by decide +kernel
theorem dX8_packing_77 : decode cX8_packing 77 = .ok (.iload 4, 2) := by decide +kernel
theorem dX8_packing_79 : decode cX8_packing 79 = .ok (.invokevirtual 171, 3) := by decide +kernel
theorem dX8_packing_82 : decode cX8_packing 82 = .ok (.imul, 1) := by decide +kernel
theorem dX8_packing_83 : decode cX8_packing 83 = .ok (.iadd, 1) := by decide +kernel
theorem dX8_packing_84 : decode cX8_packing 84 = .ok (.istore_n 3, 1) := by decide +kernel
theorem dX8_packing_85 : decode cX8_packing 85 = .ok (.iinc 4 1, 3) := by decide +kernel
theorem dX8_packing_88 : decode cX8_packing 88 = .ok (.goto (-38), 3) := by decide +kernel
theorem dX8_packing_91 : decode cX8_packing 91 = .ok (.aload_n 0, 1) := by decide +kernel
theorem dX8_packing_92 : decode cX8_packing 92 = .ok (.getfield 9, 3) := by decide +kernel
theorem dX8_packing_95 : decode cX8_packing 95 = .ok (.iconst 0, 1) := by decide +kernel
theorem dX8_packing_96 : decode cX8_packing 96 = .ok (.iload_n 2, 1) := by decide +kernel
theorem dX8_packing_97 : decode cX8_packing 97 = .ok (.iastore, 1) := by decide +kernel
theorem dX8_packing_98 : decode cX8_packing 98 = .ok (.iload_n 3, 1) := by decide +kernel
theorem dX8_packing_99 : decode cX8_packing 99 = .ok (.ireturn, 1) := by decide +kernel
theorem dX8_packs_0 : decode cX8_packs 0 = .ok (.iload_n 1, 1) := by decide +kernel
theorem dX8_packs_1 : decode cX8_packs 1 = .ok (.aload_n 0, 1) := by decide +kernel
theorem dX8_packs_2 : decode cX8_packs 2 = .ok (.getfield 9, 3) := by decide +kernel
theorem dX8_packs_5 : decode cX8_packs 5 = .ok (.iconst 3, 1) := by decide +kernel
theorem dX8_packs_6 : decode cX8_packs 6 = .ok (.iaload, 1) := by decide +kernel
theorem dX8_packs_7 : decode cX8_packs 7 = .ok (.if_icmp .ne 62, 3) := by decide +kernel
theorem dX8_packs_10 : decode cX8_packs 10 = .ok (.aload_n 0, 1) := by decide +kernel
theorem dX8_packs_11 : decode cX8_packs 11 = .ok (.iload_n 3, 1) := by decide +kernel
theorem dX8_packs_12 : decode cX8_packs 12 = .ok (.invokevirtual 207, 3) := by decide +kernel
theorem dX8_packs_15 : decode cX8_packs 15 = .ok (.istore 4, 2) := by decide +kernel
theorem dX8_packs_17 : decode cX8_packs 17 = .ok (.aload_n 0, 1) := by decide +kernel
theorem dX8_packs_18 : decode cX8_packs 18 = .ok (.getfield 210, 3) := by decide +kernel
theorem dX8_packs_21 : decode cX8_packs 21 = .ok (.ifCond .lt 12, 3) := by decide +kernel
theorem dX8_packs_24 : decode cX8_packs 24 = .ok (.iload 4, 2) := by decide +kernel
theorem dX8_packs_26 : decode cX8_packs 26 = .ok (.aload_n 0, 1) := by decide +kernel
theorem dX8_packs_27 : decode cX8_packs 27 = .ok (.getfield 210, 3) := by decide +kernel
theorem dX8_packs_30 : decode cX8_packs 30 = .ok (.if_icmp .ge 38, 3) := by decide +kernel
theorem dX8_packs_33 : decode cX8_packs 33 = .ok (.aload_n 0, 1) := by decide +kernel
theorem dX8_packs_34 : decode cX8_packs 34 = .ok (.iload 4, 2) := by decide +kernel
theorem dX8_packs_36 : decode cX8_packs 36 = .ok (.putfield 210, 3) := by decide +kernel
theorem dX8_packs_39 : decode cX8_packs 39 = .ok (.iconst 0, 1) := by decide +kernel
theorem dX8_packs_40 : decode cX8_packs 40 = .ok (.istore 5, 2) := by decide +kernel
theorem dX8_packs_42 : decode cX8_packs 42 = .ok (.iload 5, 2) := by decide +kernel
theorem dX8_packs_44 : decode cX8_packs 44 = .ok (.iload_n 1, 1) := by decide +kernel
theorem dX8_packs_45 : decode cX8_packs 45 = .ok (.if_icmp .ge 23, 3) := by decide +kernel
theorem dX8_packs_48 : decode cX8_packs 48 = .ok (.aload_n 0, 1) := by decide +kernel
theorem dX8_packs_49 : decode cX8_packs 49 = .ok (.getfield 43, 3) := by decide +kernel
theorem dX8_packs_52 : decode cX8_packs 52 = .ok (.iload 5, 2) := by decide +kernel
theorem dX8_packs_54 : decode cX8_packs 54 = .ok (.aload_n 0, 1) := by decide +kernel
theorem dX8_packs_55 : decode cX8_packs 55 = .ok (.getfield 46, 3) := by decide +kernel
theorem dX8_packs_58 : decode cX8_packs 58 = .ok (.iload 5, 2) := by decide +kernel
theorem dX8_packs_60 : decode cX8_packs 60 = .ok (.iaload, 1) := by decide +kernel
theorem dX8_packs_61 : decode cX8_packs 61 = .ok (.iastore, 1) := by decide +kernel
theorem dX8_packs_62 : decode cX8_packs 62 = .ok (.iinc 5 1, 3) := by decide +kernel
theorem dX8_packs_65 : decode cX8_packs 65 = .ok (.goto (-23), 3) := by decide +kernel
theorem dX8_packs_68 : decode cX8_packs 68 = .ok (.return_, 1) := by decide +kernel
theorem dX8_packs_69 : decode cX8_packs 69 = .ok (.iconst 0, 1) := by decide +kernel
theorem dX8_packs_70 : decode cX8_packs 70 = .ok (.istore 4, 2) := by decide +kernel
theorem dX8_packs_72 : decode cX8_packs 72 = .ok (.iload 4, 2) := by decide +kernel
theorem dX8_packs_74 : decode cX8_packs 74 = .ok (.aload_n 0, 1) := by decide +kernel
theorem dX8_packs_75 : decode cX8_packs 75 = .ok (.getfield 9, 3) := by decide +kernel
theorem dX8_packs_78 : decode cX8_packs 78 = .ok (.iconst 2, 1) := by decide +kernel
theorem dX8_packs_79 : decode cX8_packs 79 = .ok (.iaload, 1) := by decide +kernel
theorem dX8_packs_80 : decode cX8_packs 80 = .ok (.if_icmp .ge 43, 3) := by decide +kernel
theorem dX8_packs_83 : decode cX8_packs 83 = .ok (.iload_n 2, 1) := by decide +kernel
theorem dX8_packs_84 : decode cX8_packs 84 = .ok (.iload 4, 2) := by decide +kernel
theorem dX8_packs_86 : decode cX8_packs 86 = .ok (.ishr, 1) := by decide +kernel
theorem dX8_packs_87 : decode cX8_packs 87 = .ok (.iconst 1, 1) := by decide +kernel
theorem dX8_packs_88 : decode cX8_packs 88 = .ok (.iand, 1) := by decide +kernel
theorem dX8_packs_89 : decode cX8_packs 89 = .ok (.iconst 1, 1) := by decide +kernel
theorem dX8_packs_90 : decode cX8_packs 90 = .ok (.if_icmp .ne 27, 3) := by decide +kernel
theorem dX8_packs_93 : decode cX8_packs 93 = .ok (.aload_n 0, 1) := by decide +kernel
theorem dX8_packs_94 : decode cX8_packs 94 = .ok (.getfield 46, 3) := by decide +kernel
theorem dX8_packs_97 : decode cX8_packs 97 = .ok (.iload_n 1, 1) := by decide +kernel
theorem dX8_packs_98 : decode cX8_packs 98 = .ok (.iload 4, 2) := by decide +kernel
theorem dX8_packs_100 : decode cX8_packs 100 = .ok (.iastore, 1) := by decide +kernel
theorem dX8_packs_101 : decode cX8_packs 101 = .ok (.aload_n 0, 1) := by decide +kernel
theorem dX8_packs_102 : decode cX8_packs 102 = .ok (.iload_n 1, 1) := by decide +kernel
theorem dX8_packs_103 : decode cX8_packs 103 = .ok (.iconst 1, 1) := by decide +kernel
theorem dX8_packs_104 : decode cX8_packs 104 = .ok (.iadd, 1) := by decide +kernel
theorem dX8_packs_105 : decode cX8_packs 105 = .ok (.iload_n 2, 1) := by decide +kernel
theorem dX8_packs_106 : decode cX8_packs 106 = .ok (.iconst 1, 1) := by decide +kernel
theorem dX8_packs_107 : decode cX8_packs 107 = .ok (.iload 4, 2) := by decide +kernel
theorem dX8_packs_109 : decode cX8_packs 109 = .ok (.ishl, 1) := by decide +kernel
theorem dX8_packs_110 : decode cX8_packs 110 = .ok (.iconst (-1), 1) := by decide +kernel
theorem dX8_packs_111 : decode cX8_packs 111 = .ok (.ixor, 1) := by decide +kernel
theorem dX8_packs_112 : decode cX8_packs 112 = .ok (.iand, 1) := by decide +kernel
theorem dX8_packs_113 : decode cX8_packs 113 = .ok (.iload_n 3, 1) := by decide +kernel
theorem dX8_packs_114 : decode cX8_packs 114 = .ok (.invokevirtual 213, 3) := by decide +kernel
theorem dX8_packs_117 : decode cX8_packs 117 = .ok (.iinc 4 1, 3) := by decide +kernel
theorem dX8_packs_120 : decode cX8_packs 120 = .ok (.goto (-48), 3) := by decide +kernel
theorem dX8_packs_123 : decode cX8_packs 123 = .ok (.return_, 1) := by decide +kernel
theorem dX8_inside_0 : decode cX8_inside 0 = .ok (.iconst 0, 1) := by decide +kernel
theorem dX8_inside_1 : decode cX8_inside 1 = .ok (.istore_n 1, 1) := by decide +kernel
theorem dX8_inside_2 : decode cX8_inside 2 = .ok (.iconst 0, 1) := by decide +kernel
theorem dX8_inside_3 : decode cX8_inside 3 = .ok (.istore_n 2, 1) := by decide +kernel
theorem dX8_inside_4 : decode cX8_inside 4 = .ok (.iload_n 2, 1) := by decide +kernel
theorem dX8_inside_5 : decode cX8_inside 5 = .ok (.aload_n 0, 1) := by decide +kernel
theorem dX8_inside_6 : decode cX8_inside 6 = .ok (.getfield 9, 3) := by decide +kernel
theorem dX8_inside_9 : decode cX8_inside 9 = .ok (.iconst 3, 1) := by decide +kernel
theorem dX8_inside_10 : decode cX8_inside 10 = .ok (.iaload, 1) := by decide +kernel
theorem dX8_inside_11 : decode cX8_inside 11 = .ok (.if_icmp .ge 23, 3) := by decide +kernel
theorem dX8_inside_14 : decode cX8_inside 14 = .ok (.iload_n 1, 1) := by decide +kernel
theorem dX8_inside_15 : decode cX8_inside 15 = .ok (.iconst 1, 1) := by decide +kernel
theorem dX8_inside_16 : decode cX8_inside 16 = .ok (.aload_n 0, 1) := by decide +kernel
theorem dX8_inside_17 : decode cX8_inside 17 = .ok (.getfield 9, 3) := by decide +kernel
theorem dX8_inside_20 : decode cX8_inside 20 = .ok (.bipush 8, 2) := by decide +kernel
theorem dX8_inside_22 : decode cX8_inside 22 = .ok (.iload_n 2, 1) := by decide +kernel
theorem dX8_inside_23 : decode cX8_inside 23 = .ok (.iadd, 1) := by decide +kernel
theorem dX8_inside_24 : decode cX8_inside 24 = .ok (.iaload, 1) := by decide +kernel
theorem dX8_inside_25 : decode cX8_inside 25 = .ok (.ishl, 1) := by decide +kernel
theorem dX8_inside_26 : decode cX8_inside 26 = .ok (.ior, 1) := by decide +kernel
theorem dX8_inside_27 : decode cX8_inside 27 = .ok (.istore_n 1, 1) := by decide +kernel
theorem dX8_inside_28 : decode cX8_inside 28 = .ok (.iinc 2 1, 3) := by decide +kernel
theorem dX8_inside_31 : decode cX8_inside 31 = .ok (.goto (-27), 3) := by decide +kernel
theorem dX8_inside_34 : decode cX8_inside 34 = .ok (.iload_n 1, 1) := by decide +kernel
theorem dX8_inside_35 : decode cX8_inside 35 = .ok (.ireturn, 1) := by decide +kernel
theorem dX8_pack_0 : decode cX8_pack 0 = .ok (.iload_n 1, 1) := by decide +kernel
theorem dX8_pack_1 : decode cX8_pack 1 = .ok (.iconst 0, 1) := by decide +kernel
theorem dX8_pack_2 : decode cX8_pack 2 = .ok (.bipush 20, 2) := by decide +kernel
theorem dX8_pack_4 : decode cX8_pack 4 = .ok (.invokestatic 57, 3) := by decide +kernel
theorem dX8_pack_7 : decode cX8_pack 7 = .ok (.ifCond .eq 12, 3) := by decide +kernel
theorem dX8_pack_10 : decode cX8_pack 10 = .ok (.iload_n 2, 1) := by decide +kernel
theorem dX8_pack_11 : decode cX8_pack 11 = .ok (.iconst (-1), 1) := by decide +kernel
theorem dX8_pack_12 : decode cX8_pack 12 = .ok (.iconst 5, 1) := by decide +kernel
theorem dX8_pack_13 : decode cX8_pack 13 = .ok (.invokestatic 57, 3) := by decide +kernel
theorem dX8_pack_16 : decode cX8_pack 16 = .ok (.ifCond .ne 10, 3) := by decide +kernel
theorem dX8_pack_19 : decode cX8_pack 19 = .ok (.aload_n 0, 1) := by decide +kernel
theorem dX8_pack_20 : decode cX8_pack 20 = .ok (.ldc 77, 2) := by decide +kernel
theorem dX8_pack_22 : decode cX8_pack 22 = .ok (.invokevirtual 78, 3) := by decide +kernel
theorem dX8_pack_25 : decode cX8_pack 25 = .ok (.ireturn, 1) := by decide +kernel
theorem dX8_pack_26 : decode cX8_pack 26 = .ok (.aload_n 0, 1) := by decide +kernel
theorem dX8_pack_27 : decode cX8_pack 27 = .ok (.getfield 9, 3) := by decide +kernel
theorem dX8_pack_30 : decode cX8_pack 30 = .ok (.iconst 3, 1) := by decide +kernel
theorem dX8_pack_31 : decode cX8_pack 31 = .ok (.iaload, 1) := by decide +kernel
theorem dX8_pack_32 : decode cX8_pack 32 = .ok (.bipush 6, 2) := by decide +kernel
theorem dX8_pack_34 : decode cX8_pack 34 = .ok (.if_icmp .le 10, 3) := by decide +kernel
theorem dX8_pack_37 : decode cX8_pack 37 = .ok (.aload_n 0, 1) := by decide +kernel
theorem dX8_pack_38 : decode cX8_pack 38 = .ok (.ldc 99, 2) := by decide +kernel
theorem dX8_pack_40 : decode cX8_pack 40 = .ok (.invokevirtual 78, 3) := by decide +kernel
theorem dX8_pack_43 : decode cX8_pack 43 = .ok (.ireturn, 1) := by decide +kernel
theorem dX8_pack_44 : decode cX8_pack 44 = .ok (.iload_n 2, 1) := by decide +kernel
theorem dX8_pack_45 : decode cX8_pack 45 = .ok (.aload_n 0, 1) := by decide +kernel
theorem dX8_pack_46 : decode cX8_pack 46 = .ok (.getfield 9, 3) := by decide +kernel
theorem dX8_pack_49 : decode cX8_pack 49 = .ok (.iconst 3, 1) := by decide +kernel
theorem dX8_pack_50 : decode cX8_pack 50 = .ok (.iaload, 1) := by decide +kernel
theorem dX8_pack_51 : decode cX8_pack 51 = .ok (.if_icmp .lt 10, 3) := by decide +kernel
theorem dX8_pack_54 : decode cX8_pack 54 = .ok (.aload_n 0, 1) := by decide +kernel
theorem dX8_pack_55 : decode cX8_pack 55 = .ok (.ldc 203, 2) := by decide +kernel
theorem dX8_pack_57 : decode cX8_pack 57 = .ok (.invokevirtual 78, 3) := by decide +kernel
theorem dX8_pack_60 : decode cX8_pack 60 = .ok (.ireturn, 1) := by decide +kernel
theorem dX8_pack_61 : decode cX8_pack 61 = .ok (.aload_n 0, 1) := by decide +kernel
theorem dX8_pack_62 : decode cX8_pack 62 = .ok (.invokevirtual 197, 3) := by decide +kernel
theorem dX8_pack_65 : decode cX8_pack 65 = .ok (.aload_n 0, 1) := by decide +kernel
theorem dX8_pack_66 : decode cX8_pack 66 = .ok (.iconst (-1), 1) := by decide +kernel
theorem dX8_pack_67 : decode cX8_pack 67 = .ok (.putfield 210, 3) := by decide +kernel
theorem dX8_pack_70 : decode cX8_pack 70 = .ok (.aload_n 0, 1) := by decide +kernel
theorem dX8_pack_71 : decode cX8_pack 71 = .ok (.iconst 0, 1) := by decide +kernel
theorem dX8_pack_72 : decode cX8_pack 72 = .ok (.aload_n 0, 1) := by decide +kernel
theorem dX8_pack_73 : decode cX8_pack 73 = .ok (.invokevirtual 217, 3) := by decide +kernel
theorem dX8_pack_76 : decode cX8_pack 76 = .ok (.iload_n 1, 1) := by decide +kernel
theorem dX8_pack_77 : decode cX8_pack 77 = .ok (.invokevirtual 213, 3) := by decide +kernel
theorem dX8_pack_80 : decode cX8_pack 80 = .ok (.aload_n 0, 1) := by decide +kernel
theorem dX8_pack_81 : decode cX8_pack 81 = .ok (.invokevirtual 200, 3) := by decide +kernel
theorem dX8_pack_84 : decode cX8_pack 84 = .ok (.iload_n 2, 1) := by decide +kernel
theorem dX8_pack_85 : decode cX8_pack 85 = .ok (.ifCond .ge 10, 3) := by decide +kernel
theorem dX8_pack_88 : decode cX8_pack 88 = .ok (.aload_n 0, 1) := by decide +kernel
theorem dX8_pack_89 : decode cX8_pack 89 = .ok (.getfield 210, 3) := by decide +kernel
theorem dX8_pack_92 : decode cX8_pack 92 = .ok (.goto 9, 3) := by decide +kernel
theorem dX8_pack_95 : decode cX8_pack 95 = .ok (.aload_n 0, 1) := by decide +kernel
theorem dX8_pack_96 : decode cX8_pack 96 = .ok (.getfield 43, 3) := by decide +kernel
theorem dX8_pack_99 : decode cX8_pack 99 = .ok (.iload_n 2, 1) := by decide +kernel
theorem dX8_pack_100 : decode cX8_pack 100 = .ok (.iaload, 1) := by decide +kernel
theorem dX8_pack_101 : decode cX8_pack 101 = .ok (.ireturn, 1) := by decide +kernel
theorem dX8_out_0 : decode cX8_out 0 = .ok (.aload_n 0, 1) := by decide +kernel
theorem dX8_out_1 : decode cX8_out 1 = .ok (.iload_n 1, 1) := by decide +kernel
theorem dX8_out_2 : decode cX8_out 2 = .ok (.invokevirtual 86, 3) := by decide +kernel
theorem dX8_out_5 : decode cX8_out 5 = .ok (.ifCond .eq 23, 3) := by decide +kernel
theorem dX8_out_8 : decode cX8_out 8 = .ok (.iload_n 2, 1) := by decide +kernel
theorem dX8_out_9 : decode cX8_out 9 = .ok (.iconst 0, 1) := by decide +kernel
theorem dX8_out_10 : decode cX8_out 10 = .ok (.sipush 999, 3) := by decide +kernel
theorem dX8_out_13 : decode cX8_out 13 = .ok (.invokestatic 57, 3) := by decide +kernel
theorem dX8_out_16 : decode cX8_out 16 = .ok (.ifCond .eq 12, 3) := by decide +kernel
theorem dX8_out_19 : decode cX8_out 19 = .ok (.iload_n 3, 1) := by decide +kernel
theorem dX8_out_20 : decode cX8_out 20 = .ok (.iconst 0, 1) := by decide +kernel
theorem dX8_out_21 : decode cX8_out 21 = .ok (.iconst 1, 1) := by decide +kernel
theorem dX8_out_22 : decode cX8_out 22 = .ok (.invokestatic 57, 3) := by decide +kernel
theorem dX8_out_25 : decode cX8_out 25 = .ok (.ifCond .ne 10, 3) := by decide +kernel
theorem dX8_out_28 : decode cX8_out 28 = .ok (.aload_n 0, 1) := by decide +kernel
theorem dX8_out_29 : decode cX8_out 29 = .ok (.ldc 77, 2) := by decide +kernel
theorem dX8_out_31 : decode cX8_out 31 = .ok (.invokevirtual 78, 3) := by decide +kernel
theorem dX8_out_34 : decode cX8_out 34 = .ok (.ireturn, 1) := by decide +kernel
theorem dX8_out_35 : decode cX8_out 35 = .ok (.aload_n 0, 1) := by decide +kernel
theorem dX8_out_36 : decode cX8_out 36 = .ok (.iload_n 1, 1) := by decide +kernel
theorem dX8_out_37 : decode cX8_out 37 = .ok (.invokevirtual 89, 3) := by decide +kernel
theorem dX8_out_40 : decode cX8_out 40 = .ok (.ifCond .ge 10, 3) := by decide +kernel
theorem dX8_out_43 : decode cX8_out 43 = .ok (.aload_n 0, 1) := by decide +kernel
theorem dX8_out_44 : decode cX8_out 44 = .ok (.ldc 99, 2) := by decide +kernel
theorem dX8_out_46 : decode cX8_out 46 = .ok (.invokevirtual 78, 3) := by decide +kernel
theorem dX8_out_49 : decode cX8_out 49 = .ok (.ireturn, 1) := by decide +kernel
theorem dX8_out_50 : decode cX8_out 50 = .ok (.aload_n 0, 1) := by decide +kernel
theorem dX8_out_51 : decode cX8_out 51 = .ok (.invokevirtual 217, 3) := by decide +kernel
theorem dX8_out_54 : decode cX8_out 54 = .ok (.iconst 1, 1) := by decide +kernel
theorem dX8_out_55 : decode cX8_out 55 = .ok (.iload_n 1, 1) := by decide +kernel
theorem dX8_out_56 : decode cX8_out 56 = .ok (.ishl, 1) := by decide +kernel
theorem dX8_out_57 : decode cX8_out 57 = .ok (.iconst (-1), 1) := by decide +kernel
theorem dX8_out_58 : decode cX8_out 58 = .ok (.ixor, 1) := by decide +kernel
theorem dX8_out_59 : decode cX8_out 59 = .ok (.iand, 1) := by decide +kernel
theorem dX8_out_60 : decode cX8_out 60 = .ok (.istore 4, 2) := by decide +kernel
theorem dX8_out_62 : decode cX8_out 62 = .ok (.aload_n 0, 1) := by decide +kernel
theorem dX8_out_63 : decode cX8_out 63 = .ok (.invokevirtual 197, 3) := by decide +kernel
theorem dX8_out_66 : decode cX8_out 66 = .ok (.iconst (-1), 1) := by decide +kernel
theorem dX8_out_67 : decode cX8_out 67 = .ok (.istore 5, 2) := by decide +kernel
theorem dX8_out_69 : decode cX8_out 69 = .ok (.iconst 0, 1) := by decide +kernel
theorem dX8_out_70 : decode cX8_out 70 = .ok (.istore 6, 2) := by decide +kernel
theorem dX8_out_72 : decode cX8_out 72 = .ok (.iload 6, 2) := by decide +kernel
theorem dX8_out_74 : decode cX8_out 74 = .ok (.iload 4, 2) := by decide +kernel
theorem dX8_out_76 : decode cX8_out 76 = .ok (.if_icmp .gt 106, 3) := by decide +kernel
theorem dX8_out_79 : decode cX8_out 79 = .ok (.iload 6, 2) := by decide +kernel
theorem dX8_out_81 : decode cX8_out 81 = .ok (.iload 4, 2) := by decide +kernel
theorem dX8_out_83 : decode cX8_out 83 = .ok (.iconst (-1), 1) := by decide +kernel
theorem dX8_out_84 : decode cX8_out 84 = .ok (.ixor, 1) := by decide +kernel
theorem dX8_out_85 : decode cX8_out 85 = .ok (.iand, 1) := by decide +kernel
theorem dX8_out_86 : decode cX8_out 86 = .ok (.ifCond .ne 90, 3) := by decide +kernel
theorem dX8_out_89 : decode cX8_out 89 = .ok (.iload 5, 2) := by decide +kernel
theorem dX8_out_91 : decode cX8_out 91 = .ok (.ifCond .lt 16, 3) := by decide +kernel
theorem dX8_out_94 : decode cX8_out 94 = .ok (.iload 6, 2) := by decide +kernel
theorem dX8_out_96 : decode cX8_out 96 = .ok (.invokestatic 220, 3) := by decide +kernel
theorem dX8_out_99 : decode cX8_out 99 = .ok (.iload 5, 2) := by decide +kernel
theorem dX8_out_101 : decode cX8_out 101 = .ok (.invokestatic 220, 3) := by decide +kernel
theorem dX8_out_104 : decode cX8_out 104 = .ok (.if_icmp .ge 72, 3) := by decide +kernel
theorem dX8_out_107 : decode cX8_out 107 = .ok (.aload_n 0, 1) := by decide +kernel
theorem dX8_out_108 : decode cX8_out 108 = .ok (.getfield 9, 3) := by decide +kernel
theorem dX8_out_111 : decode cX8_out 111 = .ok (.iconst 3, 1) := by decide +kernel
theorem dX8_out_112 : decode cX8_out 112 = .ok (.iaload, 1) := by decide +kernel
theorem dX8_out_113 : decode cX8_out 113 = .ok (.iconst 1, 1) := by decide +kernel
theorem dX8_out_114 : decode cX8_out 114 = .ok (.isub, 1) := by decide +kernel
theorem dX8_out_115 : decode cX8_out 115 = .ok (.istore 7, 2) := by decide +kernel
theorem dX8_out_117 : decode cX8_out 117 = .ok (.iload 7, 2) := by decide +kernel
theorem dX8_out_119 : decode cX8_out 119 = .ok (.ifCond .lt 34, 3) := by decide +kernel
theorem dX8_out_122 : decode cX8_out 122 = .ok (.iload 6, 2) := by decide +kernel
theorem dX8_out_124 : decode cX8_out 124 = .ok (.aload_n 0, 1) := by decide +kernel
theorem dX8_out_125 : decode cX8_out 125 = .ok (.getfield 9, 3) := by decide +kernel
theorem dX8_out_128 : decode cX8_out 128 = .ok (.bipush 8, 2) := by decide +kernel
theorem dX8_out_130 : decode cX8_out 130 = .ok (.iload 7, 2) := by decide +kernel
theorem dX8_out_132 : decode cX8_out 132 = .ok (.iadd, 1) := by decide +kernel
theorem dX8_out_133 : decode cX8_out 133 = .ok (.iaload, 1) := by decide +kernel
theorem dX8_out_134 : decode cX8_out 134 = .ok (.ishr, 1) := by decide +kernel
theorem dX8_out_135 : decode cX8_out 135 = .ok (.iconst 1, 1) := by decide +kernel
theorem dX8_out_136 : decode cX8_out 136 = .ok (.iand, 1) := by decide +kernel
theorem dX8_out_137 : decode cX8_out 137 = .ok (.iconst 1, 1) := by decide +kernel
theorem dX8_out_138 : decode cX8_out 138 = .ok (.if_icmp .ne 9, 3) := by decide +kernel
theorem dX8_out_141 : decode cX8_out 141 = .ok (.aload_n 0, 1) := by decide +kernel
theorem dX8_out_142 : decode cX8_out 142 = .ok (.iload 7, 2) := by decide +kernel
theorem dX8_out_144 : decode cX8_out 144 = .ok (.invokevirtual 100, 3) := by decide +kernel
theorem dX8_out_147 : decode cX8_out 147 = .ok (.iinc 7 (-1), 3) := by decide +kernel
theorem dX8_out_150 : decode cX8_out 150 = .ok (.goto (-33), 3) := by decide +kernel
theorem dX8_out_153 : decode cX8_out 153 = .ok (.aload_n 0, 1) := by decide +kernel
theorem dX8_out_154 : decode cX8_out 154 = .ok (.iload_n 1, 1) := by decide +kernel
theorem dX8_out_155 : decode cX8_out 155 = .ok (.iconst 0, 1) := by decide +kernel
theorem dX8_out_156 : decode cX8_out 156 = .ok (.invokevirtual 174, 3) := by decide +kernel
theorem dX8_out_159 : decode cX8_out 159 = .ok (.iload_n 2, 1) := by decide +kernel
theorem dX8_out_160 : decode cX8_out 160 = .ok (.if_icmp .gt 8, 3) := by decide +kernel
theorem dX8_out_163 : decode cX8_out 163 = .ok (.iload 6, 2) := by decide +kernel
theorem dX8_out_165 : decode cX8_out 165 = .ok (.goto 5, 3) := by decide +kernel
theorem dX8_out_168 : decode cX8_out 168 = .ok (.iload 5, 2) := by decide +kernel
theorem dX8_out_170 : decode cX8_out 170 = .ok (.istore 5, 2) := by decide +kernel
theorem dX8_out_172 : decode cX8_out 172 = .ok (.aload_n 0, 1) := by decide +kernel
theorem dX8_out_173 : decode cX8_out 173 = .ok (.invokevirtual 200, 3) := by decide +kernel
theorem dX8_out_176 : decode cX8_out 176 = .ok (.iinc 6 1, 3) := by decide +kernel
theorem dX8_out_179 : decode cX8_out 179 = .ok (.goto (-107), 3) := by decide +kernel
theorem dX8_out_182 : decode cX8_out 182 = .ok (.iload 5, 2) := by decide +kernel
theorem dX8_out_184 : decode cX8_out 184 = .ok (.ifCond .ge 12, 3) := by decide +kernel
theorem dX8_out_187 : decode cX8_out 187 = .ok (.aload_n 0, 1) := by decide +kernel
theorem dX8_out_188 : decode cX8_out 188 = .ok (.ldc 203, 2) := by decide +kernel
theorem dX8_out_190 : decode cX8_out 190 = .ok (.invokevirtual 78, 3) := by decide +kernel
theorem dX8_out_193 : decode cX8_out 193 = .ok (.goto 17, 3) := by decide +kernel
theorem dX8_out_196 : decode cX8_out 196 = .ok (.iload_n 3, 1) := by decide +kernel
theorem dX8_out_197 : decode cX8_out 197 = .ok (.ifCond .ne 11, 3) := by decide +kernel
theorem dX8_out_200 : decode cX8_out 200 = .ok (.iload 5, 2) := by decide +kernel
theorem dX8_out_202 : decode cX8_out 202 = .ok (.invokestatic 220, 3) := by decide +kernel
theorem dX8_out_205 : decode cX8_out 205 = .ok (.goto 5, 3) := by decide +kernel
theorem dX8_out_208 : decode cX8_out 208 = .ok (.iload 5, 2) := by decide +kernel
theorem dX8_out_210 : decode cX8_out 210 = .ok (.ireturn, 1) := by decide +kernel
theorem dX8_odds_0 : decode cX8_odds 0 = .ok (.iload_n 1, 1) := by decide +kernel
theorem dX8_odds_1 : decode cX8_odds 1 = .ok (.iconst 0, 1) := by decide +kernel
theorem dX8_odds_2 : decode cX8_odds 2 = .ok (.sipush 999, 3) := by decide +kernel
theorem dX8_odds_5 : decode cX8_odds 5 = .ok (.invokestatic 57, 3) := by decide +kernel
theorem dX8_odds_8 : decode cX8_odds 8 = .ok (.ifCond .eq 12, 3) := by decide +kernel
theorem dX8_odds_11 : decode cX8_odds 11 = .ok (.iload_n 2, 1) := by decide +kernel
theorem dX8_odds_12 : decode cX8_odds 12 = .ok (.iconst 0, 1) := by decide +kernel
theorem dX8_odds_13 : decode cX8_odds 13 = .ok (.iconst 1, 1) := by decide +kernel
theorem dX8_odds_14 : decode cX8_odds 14 = .ok (.invokestatic 57, 3) := by decide +kernel
theorem dX8_odds_17 : decode cX8_odds 17 = .ok (.ifCond .ne 10, 3) := by decide +kernel
theorem dX8_odds_20 : decode cX8_odds 20 = .ok (.aload_n 0, 1) := by decide +kernel
theorem dX8_odds_21 : decode cX8_odds 21 = .ok (.ldc 77, 2) := by decide +kernel
theorem dX8_odds_23 : decode cX8_odds 23 = .ok (.invokevirtual 78, 3) := by decide +kernel
theorem dX8_odds_26 : decode cX8_odds 26 = .ok (.ireturn, 1) := by decide +kernel
theorem dX8_odds_27 : decode cX8_odds 27 = .ok (.iconst 0, 1) := by decide +kernel
theorem dX8_odds_28 : decode cX8_odds 28 = .ok (.istore_n 3, 1) := by decide +kernel
theorem dX8_odds_29 : decode cX8_odds 29 = .ok (.iconst 0, 1) := by decide +kernel
theorem dX8_odds_30 : decode cX8_odds 30 = .ok (.istore 4, 2) := by decide +kernel
theorem dX8_odds_32 : decode cX8_odds 32 = .ok (.iconst 0, 1) := by decide +kernel
theorem dX8_odds_33 : decode cX8_odds 33 = .ok (.istore 5, 2) := by decide +kernel
theorem dX8_odds_35 : decode cX8_odds 35 = .ok (.iload 5, 2) := by decide +kernel
theorem dX8_odds_37 : decode cX8_odds 37 = .ok (.aload_n 0, 1) := by decide +kernel
theorem dX8_odds_38 : decode cX8_odds 38 = .ok (.getfield 9, 3) := by decide +kernel
theorem dX8_odds_41 : decode cX8_odds 41 = .ok (.iconst 2, 1) := by decide +kernel
theorem dX8_odds_42 : decode cX8_odds 42 = .ok (.iaload, 1) := by decide +kernel
theorem dX8_odds_43 : decode cX8_odds 43 = .ok (.if_icmp .ge 60, 3) := by decide +kernel
theorem dX8_odds_46 : decode cX8_odds 46 = .ok (.aload_n 0, 1) := by decide +kernel
theorem dX8_odds_47 : decode cX8_odds 47 = .ok (.iload 5, 2) := by decide +kernel
theorem dX8_odds_49 : decode cX8_odds 49 = .ok (.invokevirtual 89, 3) := by decide +kernel
theorem dX8_odds_52 : decode cX8_odds 52 = .ok (.bipush (-2), 2) := by decide +kernel
theorem dX8_odds_54 : decode cX8_odds 54 = .ok (.if_icmp .eq 43, 3) := by decide +kernel
theorem dX8_odds_57 : decode cX8_odds 57 = .ok (.aload_n 0, 1) := by decide +kernel
theorem dX8_odds_58 : decode cX8_odds 58 = .ok (.iload 5, 2) := by decide +kernel
theorem dX8_odds_60 : decode cX8_odds 60 = .ok (.invokevirtual 204, 3) := by decide +kernel
theorem dX8_odds_63 : decode cX8_odds 63 = .ok (.istore 6, 2) := by decide +kernel
theorem dX8_odds_65 : decode cX8_odds 65 = .ok (.iload 4, 2) := by decide +kernel
theorem dX8_odds_67 : decode cX8_odds 67 = .ok (.iload 6, 2) := by decide +kernel
theorem dX8_odds_69 : decode cX8_odds 69 = .ok (.iadd, 1) := by decide +kernel
theorem dX8_odds_70 : decode cX8_odds 70 = .ok (.istore 4, 2) := by decide +kernel
theorem dX8_odds_72 : decode cX8_odds 72 = .ok (.iload_n 3, 1) := by decide +kernel
theorem dX8_odds_73 : decode cX8_odds 73 = .ok (.aload_n 0, 1) := by decide +kernel
theorem dX8_odds_74 : decode cX8_odds 74 = .ok (.iload 5, 2) := by decide +kernel
theorem dX8_odds_76 : decode cX8_odds 76 = .ok (.aload_n 0, 1) := by decide +kernel
theorem dX8_odds_77 : decode cX8_odds 77 = .ok (.iload 5, 2) := by decide +kernel
theorem dX8_odds_79 : decode cX8_odds 79 = .ok (.invokevirtual 177, 3) := by decide +kernel
theorem dX8_odds_82 : decode cX8_odds 82 = .ok (.invokevirtual 174, 3) := by decide +kernel
theorem dX8_odds_85 : decode cX8_odds 85 = .ok (.iload_n 1, 1) := by decide +kernel
theorem dX8_odds_86 : decode cX8_odds 86 = .ok (.if_icmp .gt 8, 3) := by decide +kernel
theorem dX8_odds_89 : decode cX8_odds 89 = .ok (.iload 6, 2) := by decide +kernel
theorem dX8_odds_91 : decode cX8_odds 91 = .ok (.goto 4, 3) := by decide +kernel
theorem dX8_odds_94 : decode cX8_odds 94 = .ok (.iconst 0, 1) := by decide +kernel
theorem dX8_odds_95 : decode cX8_odds 95 = .ok (.iadd, 1) := by decide +kernel
theorem dX8_odds_96 : decode cX8_odds 96 = .ok (.istore_n 3, 1) := by decide +kernel
theorem dX8_odds_97 : decode cX8_odds 97 = .ok (.iinc 5 1, 3) := by decide +kernel
theorem dX8_odds_100 : decode cX8_odds 100 = .ok (.goto (-65), 3) := by decide +kernel
theorem dX8_odds_103 : decode cX8_odds 103 = .ok (.iload 4, 2) := by decide +kernel
theorem dX8_odds_105 : decode cX8_odds 105 = .ok (.ifCond .ne 10, 3) := by decide +kernel
theorem dX8_odds_108 : decode cX8_odds 108 = .ok (.aload_n 0, 1) := by decide +kernel
theorem dX8_odds_109 : decode cX8_odds 109 = .ok (.ldc 99, 2) := by decide +kernel
theorem dX8_odds_111 : decode cX8_odds 111 = .ok (.invokevirtual 78, 3) := by decide +kernel
theorem dX8_odds_114 : decode cX8_odds 114 = .ok (.ireturn, 1) := by decide +kernel
theorem dX8_odds_115 : decode cX8_odds 115 = .ok (.iload_n 3, 1) := by decide +kernel
theorem dX8_odds_116 : decode cX8_odds 116 = .ok (.istore 5, 2) := by decide +kernel
theorem dX8_odds_118 : decode cX8_odds 118 = .ok (.iload 4, 2) := by decide +kernel
theorem dX8_odds_120 : decode cX8_odds 120 = .ok (.istore 6, 2) := by decide +kernel
theorem dX8_odds_122 : decode cX8_odds 122 = .ok (.iload 5, 2) := by decide +kernel
theorem dX8_odds_124 : decode cX8_odds 124 = .ok (.ifCond .eq 21, 3) := by decide +kernel
theorem dX8_odds_127 : decode cX8_odds 127 = .ok (.iload 6, 2) := by decide +kernel
theorem dX8_odds_129 : decode cX8_odds 129 = .ok (.iload 5, 2) := by decide +kernel
theorem dX8_odds_131 : decode cX8_odds 131 = .ok (.irem, 1) := by decide +kernel
theorem dX8_odds_132 : decode cX8_odds 132 = .ok (.istore 7, 2) := by decide +kernel
theorem dX8_odds_134 : decode cX8_odds 134 = .ok (.iload 5, 2) := by decide +kernel
theorem dX8_odds_136 : decode cX8_odds 136 = .ok (.istore 6, 2) := by decide +kernel
theorem dX8_odds_138 : decode cX8_odds 138 = .ok (.iload 7, 2) := by decide +kernel
theorem dX8_odds_140 : decode cX8_odds 140 = .ok (.istore 5, 2) := by decide +kernel
theorem dX8_odds_142 : decode cX8_odds 142 = .ok (.goto (-20), 3) := by decide +kernel
theorem dX8_odds_145 : decode cX8_odds 145 = .ok (.iload_n 2, 1) := by decide +kernel
theorem dX8_odds_146 : decode cX8_odds 146 = .ok (.ifCond .ne 10, 3) := by decide +kernel
theorem dX8_odds_149 : decode cX8_odds 149 = .ok (.iload_n 3, 1) := by decide +kernel
theorem dX8_odds_150 : decode cX8_odds 150 = .ok (.iload 6, 2) := by decide +kernel
theorem dX8_odds_152 : decode cX8_odds 152 = .ok (.idiv, 1) := by decide +kernel
theorem dX8_odds_153 : decode cX8_odds 153 = .ok (.goto 8, 3) := by decide +kernel
theorem dX8_odds_156 : decode cX8_odds 156 = .ok (.iload 4, 2) := by decide +kernel
theorem dX8_odds_158 : decode cX8_odds 158 = .ok (.iload 6, 2) := by decide +kernel
theorem dX8_odds_160 : decode cX8_odds 160 = .ok (.idiv, 1) := by decide +kernel
theorem dX8_odds_161 : decode cX8_odds 161 = .ok (.ireturn, 1) := by decide +kernel
theorem dX8_rightOf_0 : decode cX8_rightOf 0 = .ok (.iconst 0, 1) := by decide +kernel
theorem dX8_rightOf_1 : decode cX8_rightOf 1 = .ok (.istore_n 2, 1) := by decide +kernel
theorem dX8_rightOf_2 : decode cX8_rightOf 2 = .ok (.iload_n 2, 1) := by decide +kernel
theorem dX8_rightOf_3 : decode cX8_rightOf 3 = .ok (.aload_n 0, 1) := by decide +kernel
theorem dX8_rightOf_4 : decode cX8_rightOf 4 = .ok (.getfield 25, 3) := by decide +kernel
theorem dX8_rightOf_7 : decode cX8_rightOf 7 = .ok (.iload_n 1, 1) := by decide +kernel
theorem dX8_rightOf_8 : decode cX8_rightOf 8 = .ok (.iaload, 1) := by decide +kernel
theorem dX8_rightOf_9 : decode cX8_rightOf 9 = .ok (.if_icmp .ge 42, 3) := by decide +kernel
theorem dX8_rightOf_12 : decode cX8_rightOf 12 = .ok (.iload_n 2, 1) := by decide +kernel
theorem dX8_rightOf_13 : decode cX8_rightOf 13 = .ok (.aload_n 0, 1) := by decide +kernel
theorem dX8_rightOf_14 : decode cX8_rightOf 14 = .ok (.getfield 9, 3) := by decide +kernel
theorem dX8_rightOf_17 : decode cX8_rightOf 17 = .ok (.iconst 3, 1) := by decide +kernel
theorem dX8_rightOf_18 : decode cX8_rightOf 18 = .ok (.iaload, 1) := by decide +kernel
theorem dX8_rightOf_19 : decode cX8_rightOf 19 = .ok (.if_icmp .ge 32, 3) := by decide +kernel
theorem dX8_rightOf_22 : decode cX8_rightOf 22 = .ok (.aload_n 0, 1) := by decide +kernel
theorem dX8_rightOf_23 : decode cX8_rightOf 23 = .ok (.getfield 28, 3) := by decide +kernel
theorem dX8_rightOf_26 : decode cX8_rightOf 26 = .ok (.bipush 24, 2) := by decide +kernel
theorem dX8_rightOf_28 : decode cX8_rightOf 28 = .ok (.iload_n 1, 1) := by decide +kernel
theorem dX8_rightOf_29 : decode cX8_rightOf 29 = .ok (.imul, 1) := by decide +kernel
theorem dX8_rightOf_30 : decode cX8_rightOf 30 = .ok (.iload_n 2, 1) := by decide +kernel
theorem dX8_rightOf_31 : decode cX8_rightOf 31 = .ok (.iadd, 1) := by decide +kernel
theorem dX8_rightOf_32 : decode cX8_rightOf 32 = .ok (.iaload, 1) := by decide +kernel
theorem dX8_rightOf_33 : decode cX8_rightOf 33 = .ok (.aload_n 0, 1) := by decide +kernel
theorem dX8_rightOf_34 : decode cX8_rightOf 34 = .ok (.getfield 9, 3) := by decide +kernel
theorem dX8_rightOf_37 : decode cX8_rightOf 37 = .ok (.bipush 8, 2) := by decide +kernel
theorem dX8_rightOf_39 : decode cX8_rightOf 39 = .ok (.iload_n 2, 1) := by decide +kernel
theorem dX8_rightOf_40 : decode cX8_rightOf 40 = .ok (.iadd, 1) := by decide +kernel
theorem dX8_rightOf_41 : decode cX8_rightOf 41 = .ok (.iaload, 1) := by decide +kernel
theorem dX8_rightOf_42 : decode cX8_rightOf 42 = .ok (.if_icmp .ne 9, 3) := by decide +kernel
theorem dX8_rightOf_45 : decode cX8_rightOf 45 = .ok (.iinc 2 1, 3) := by decide +kernel
theorem dX8_rightOf_48 : decode cX8_rightOf 48 = .ok (.goto (-46), 3) := by decide +kernel
theorem dX8_rightOf_51 : decode cX8_rightOf 51 = .ok (.iload_n 2, 1) := by decide +kernel
theorem dX8_rightOf_52 : decode cX8_rightOf 52 = .ok (.ireturn, 1) := by decide +kernel
theorem dX8_fits_0 : decode cX8_fits 0 = .ok (.aload_n 0, 1) := by decide +kernel
theorem dX8_fits_1 : decode cX8_fits 1 = .ok (.iload_n 1, 1) := by decide +kernel
theorem dX8_fits_2 : decode cX8_fits 2 = .ok (.invokevirtual 223, 3) := by decide +kernel
theorem dX8_fits_5 : decode cX8_fits 5 = .ok (.istore_n 2, 1) := by decide +kernel
theorem dX8_fits_6 : decode cX8_fits 6 = .ok (.iload_n 2, 1) := by decide +kernel
theorem dX8_fits_7 : decode cX8_fits 7 = .ok (.ifCond .eq 9, 3) := by decide +kernel
theorem dX8_fits_10 : decode cX8_fits 10 = .ok (.aload_n 0, 1) := by decide +kernel
theorem dX8_fits_11 : decode cX8_fits 11 = .ok (.iload_n 2, 1) := by decide +kernel
theorem dX8_fits_12 : decode cX8_fits 12 = .ok (.invokevirtual 78, 3) := by decide +kernel
theorem dX8_fits_15 : decode cX8_fits 15 = .ok (.ireturn, 1) := by decide +kernel
theorem dX8_fits_16 : decode cX8_fits 16 = .ok (.aload_n 0, 1) := by decide +kernel
theorem dX8_fits_17 : decode cX8_fits 17 = .ok (.getfield 25, 3) := by decide +kernel
theorem dX8_fits_20 : decode cX8_fits 20 = .ok (.iload_n 1, 1) := by decide +kernel
theorem dX8_fits_21 : decode cX8_fits 21 = .ok (.iaload, 1) := by decide +kernel
theorem dX8_fits_22 : decode cX8_fits 22 = .ok (.aload_n 0, 1) := by decide +kernel
theorem dX8_fits_23 : decode cX8_fits 23 = .ok (.getfield 9, 3) := by decide +kernel
theorem dX8_fits_26 : decode cX8_fits 26 = .ok (.iconst 3, 1) := by decide +kernel
theorem dX8_fits_27 : decode cX8_fits 27 = .ok (.iaload, 1) := by decide +kernel
theorem dX8_fits_28 : decode cX8_fits 28 = .ok (.if_icmp .eq 10, 3) := by decide +kernel
theorem dX8_fits_31 : decode cX8_fits 31 = .ok (.aload_n 0, 1) := by decide +kernel
theorem dX8_fits_32 : decode cX8_fits 32 = .ok (.ldc 203, 2) := by decide +kernel
theorem dX8_fits_34 : decode cX8_fits 34 = .ok (.invokevirtual 78, 3) := by decide +kernel
theorem dX8_fits_37 : decode cX8_fits 37 = .ok (.ireturn, 1) := by decide +kernel
theorem dX8_fits_38 : decode cX8_fits 38 = .ok (.aload_n 0, 1) := by decide +kernel
theorem dX8_fits_39 : decode cX8_fits 39 = .ok (.invokevirtual 197, 3) := by decide +kernel
theorem dX8_fits_42 : decode cX8_fits 42 = .ok (.iconst 0, 1) := by decide +kernel
theorem dX8_fits_43 : decode cX8_fits 43 = .ok (.istore_n 3, 1) := by decide +kernel
theorem dX8_fits_44 : decode cX8_fits 44 = .ok (.iload_n 3, 1) := by decide +kernel
theorem dX8_fits_45 : decode cX8_fits 45 = .ok (.bipush 99, 2) := by decide +kernel
theorem dX8_fits_47 : decode cX8_fits 47 = .ok (.if_icmp .gt 28, 3) := by decide +kernel
theorem dX8_fits_50 : decode cX8_fits 50 = .ok (.aload_n 0, 1) := by decide +kernel
theorem dX8_fits_51 : decode cX8_fits 51 = .ok (.iload_n 1, 1) := by decide +kernel
theorem dX8_fits_52 : decode cX8_fits 52 = .ok (.invokevirtual 226, 3) := by decide +kernel
theorem dX8_fits_55 : decode cX8_fits 55 = .ok (.aload_n 0, 1) := by decide +kernel
theorem dX8_fits_56 : decode cX8_fits 56 = .ok (.getfield 25, 3) := by decide +kernel
theorem dX8_fits_59 : decode cX8_fits 59 = .ok (.iload_n 1, 1) := by decide +kernel
theorem dX8_fits_60 : decode cX8_fits 60 = .ok (.iaload, 1) := by decide +kernel
theorem dX8_fits_61 : decode cX8_fits 61 = .ok (.if_icmp .ge 14, 3) := by decide +kernel
theorem dX8_fits_64 : decode cX8_fits 64 = .ok (.aload_n 0, 1) := by decide +kernel
theorem dX8_fits_65 : decode cX8_fits 65 = .ok (.iconst 1, 1) := by decide +kernel
theorem dX8_fits_66 : decode cX8_fits 66 = .ok (.invokevirtual 187, 3) := by decide +kernel
theorem dX8_fits_69 : decode cX8_fits 69 = .ok (.iinc 3 1, 3) := by decide +kernel
theorem dX8_fits_72 : decode cX8_fits 72 = .ok (.goto (-28), 3) := by decide +kernel
theorem dX8_fits_75 : decode cX8_fits 75 = .ok (.aload_n 0, 1) := by decide +kernel
theorem dX8_fits_76 : decode cX8_fits 76 = .ok (.invokevirtual 200, 3) := by decide +kernel
theorem dX8_fits_79 : decode cX8_fits 79 = .ok (.iload_n 3, 1) := by decide +kernel
theorem dX8_fits_80 : decode cX8_fits 80 = .ok (.bipush 99, 2) := by decide +kernel
theorem dX8_fits_82 : decode cX8_fits 82 = .ok (.if_icmp .le 12, 3) := by decide +kernel
theorem dX8_fits_85 : decode cX8_fits 85 = .ok (.aload_n 0, 1) := by decide +kernel
theorem dX8_fits_86 : decode cX8_fits 86 = .ok (.ldc 203, 2) := by decide +kernel
theorem dX8_fits_88 : decode cX8_fits 88 = .ok (.invokevirtual 78, 3) := by decide +kernel
theorem dX8_fits_91 : decode cX8_fits 91 = .ok (.goto 4, 3) := by decide +kernel
theorem dX8_fits_94 : decode cX8_fits 94 = .ok (.iload_n 3, 1) := by decide +kernel
theorem dX8_fits_95 : decode cX8_fits 95 = .ok (.ireturn, 1) := by decide +kernel
theorem dX8_begins_0 : decode cX8_begins 0 = .ok (.aload_n 0, 1) := by decide +kernel
theorem dX8_begins_1 : decode cX8_begins 1 = .ok (.getfield 229, 3) := by decide +kernel
theorem dX8_begins_4 : decode cX8_begins 4 = .ok (.bipush 30, 2) := by decide +kernel
theorem dX8_begins_6 : decode cX8_begins 6 = .ok (.if_icmp .ge 23, 3) := by decide +kernel
theorem dX8_begins_9 : decode cX8_begins 9 = .ok (.aload_n 0, 1) := by decide +kernel
theorem dX8_begins_10 : decode cX8_begins 10 = .ok (.getfield 49, 3) := by decide +kernel
theorem dX8_begins_13 : decode cX8_begins 13 = .ok (.aload_n 0, 1) := by decide +kernel
theorem dX8_begins_14 : decode cX8_begins 14 = .ok (.getfield 229, 3) := by decide +kernel
theorem dX8_begins_17 : decode cX8_begins 17 = .ok (.iload_n 1, 1) := by decide +kernel
theorem dX8_begins_18 : decode cX8_begins 18 = .ok (.iastore, 1) := by decide +kernel
theorem dX8_begins_19 : decode cX8_begins 19 = .ok (.aload_n 0, 1) := by decide +kernel
theorem dX8_begins_20 : decode cX8_begins 20 = .ok (.dup, 1) := by decide +kernel
theorem dX8_begins_21 : decode cX8_begins 21 = .ok (.getfield 229, 3) := by decide +kernel
theorem dX8_begins_24 : decode cX8_begins 24 = .ok (.iconst 1, 1) := by decide +kernel
theorem dX8_begins_25 : decode cX8_begins 25 = .ok (.iadd, 1) := by decide +kernel
theorem dX8_begins_26 : decode cX8_begins 26 = .ok (.putfield 229, 3) := by decide +kernel
theorem dX8_begins_29 : decode cX8_begins 29 = .ok (.return_, 1) := by decide +kernel
theorem dX8_plainRattles_0 : decode cX8_plainRattles 0 = .ok (.aload_n 0, 1) := by decide +kernel
theorem dX8_plainRattles_1 : decode cX8_plainRattles 1 = .ok (.bipush 10, 2) := by decide +kernel
theorem dX8_plainRattles_3 : decode cX8_plainRattles 3 = .ok (.invokevirtual 232, 3) := by decide +kernel
theorem dX8_plainRattles_6 : decode cX8_plainRattles 6 = .ok (.iload_n 2, 1) := by decide +kernel
theorem dX8_plainRattles_7 : decode cX8_plainRattles 7 = .ok (.iload_n 1, 1) := by decide +kernel
theorem dX8_plainRattles_8 : decode cX8_plainRattles 8 = .ok (.iadd, 1) := by decide +kernel
theorem dX8_plainRattles_9 : decode cX8_plainRattles 9 = .ok (.ireturn, 1) := by decide +kernel
theorem dX8_keysRattles_0 : decode cX8_keysRattles 0 = .ok (.aload_n 0, 1) := by decide +kernel
theorem dX8_keysRattles_1 : decode cX8_keysRattles 1 = .ok (.bipush 20, 2) := by decide +kernel
theorem dX8_keysRattles_3 : decode cX8_keysRattles 3 = .ok (.invokevirtual 232, 3) := by decide +kernel
theorem dX8_keysRattles_6 : decode cX8_keysRattles 6 = .ok (.aload_n 0, 1) := by decide +kernel
theorem dX8_keysRattles_7 : decode cX8_keysRattles 7 = .ok (.iload_n 1, 1) := by decide +kernel
theorem dX8_keysRattles_8 : decode cX8_keysRattles 8 = .ok (.iload_n 2, 1) := by decide +kernel
theorem dX8_keysRattles_9 : decode cX8_keysRattles 9 = .ok (.invokevirtual 235, 3) := by decide +kernel
theorem dX8_keysRattles_12 : decode cX8_keysRattles 12 = .ok (.iconst 4, 1) := by decide +kernel
theorem dX8_keysRattles_13 : decode cX8_keysRattles 13 = .ok (.isub, 1) := by decide +kernel
theorem dX8_keysRattles_14 : decode cX8_keysRattles 14 = .ok (.ireturn, 1) := by decide +kernel
theorem dX8_rattles_0 : decode cX8_rattles 0 = .ok (.aload_n 0, 1) := by decide +kernel
theorem dX8_rattles_1 : decode cX8_rattles 1 = .ok (.iload_n 1, 1) := by decide +kernel
theorem dX8_rattles_2 : decode cX8_rattles 2 = .ok (.iconst 0, 1) := by decide +kernel
theorem dX8_rattles_3 : decode cX8_rattles 3 = .ok (.invokevirtual 61, 3) := by decide +kernel
theorem dX8_rattles_6 : decode cX8_rattles 6 = .ok (.lookupswitch 65 #[(1, 34), (4, 41), (6, 56)], 34) := by decide +kernel
theorem dX8_rattles_40 : decode cX8_rattles 40 = .ok (.aload_n 0, 1) := by decide +kernel
theorem dX8_rattles_41 : decode cX8_rattles 41 = .ok (.iload_n 1, 1) := by decide +kernel
theorem dX8_rattles_42 : decode cX8_rattles 42 = .ok (.iload_n 2, 1) := by decide +kernel
theorem dX8_rattles_43 : decode cX8_rattles 43 = .ok (.invokevirtual 238, 3) := by decide +kernel
theorem dX8_rattles_46 : decode cX8_rattles 46 = .ok (.ireturn, 1) := by decide +kernel
theorem dX8_rattles_47 : decode cX8_rattles 47 = .ok (.aload_n 0, 1) := by decide +kernel
theorem dX8_rattles_48 : decode cX8_rattles 48 = .ok (.bipush 50, 2) := by decide +kernel
theorem dX8_rattles_50 : decode cX8_rattles 50 = .ok (.invokevirtual 232, 3) := by decide +kernel
theorem dX8_rattles_53 : decode cX8_rattles 53 = .ok (.aload_n 0, 1) := by decide +kernel
theorem dX8_rattles_54 : decode cX8_rattles 54 = .ok (.iload_n 1, 1) := by decide +kernel
theorem dX8_rattles_55 : decode cX8_rattles 55 = .ok (.iload_n 2, 1) := by decide +kernel
theorem dX8_rattles_56 : decode cX8_rattles 56 = .ok (.invokevirtual 238, 3) := by decide +kernel
theorem dX8_rattles_59 : decode cX8_rattles 59 = .ok (.iconst 3, 1) := by decide +kernel
theorem dX8_rattles_60 : decode cX8_rattles 60 = .ok (.imul, 1) := by decide +kernel
theorem dX8_rattles_61 : decode cX8_rattles 61 = .ok (.ireturn, 1) := by decide +kernel
theorem dX8_rattles_62 : decode cX8_rattles 62 = .ok (.aload_n 0, 1) := by decide +kernel
theorem dX8_rattles_63 : decode cX8_rattles 63 = .ok (.bipush 70, 2) := by decide +kernel
theorem dX8_rattles_65 : decode cX8_rattles 65 = .ok (.invokevirtual 232, 3) := by decide +kernel
theorem dX8_rattles_68 : decode cX8_rattles 68 = .ok (.bipush 9, 2) := by decide +kernel
theorem dX8_rattles_70 : decode cX8_rattles 70 = .ok (.ireturn, 1) := by decide +kernel
theorem dX8_rattles_71 : decode cX8_rattles 71 = .ok (.aload_n 0, 1) := by decide +kernel
theorem dX8_rattles_72 : decode cX8_rattles 72 = .ok (.iload_n 1, 1) := by decide +kernel
theorem dX8_rattles_73 : decode cX8_rattles 73 = .ok (.iload_n 2, 1) := by decide +kernel
theorem dX8_rattles_74 : decode cX8_rattles 74 = .ok (.invokevirtual 235, 3) := by decide +kernel
theorem dX8_rattles_77 : decode cX8_rattles 77 = .ok (.ireturn, 1) := by decide +kernel
theorem dX8_plainRustles_0 : decode cX8_plainRustles 0 = .ok (.aload_n 0, 1) := by decide +kernel
theorem dX8_plainRustles_1 : decode cX8_plainRustles 1 = .ok (.bipush 11, 2) := by decide +kernel
theorem dX8_plainRustles_3 : decode cX8_plainRustles 3 = .ok (.invokevirtual 232, 3) := by decide +kernel
theorem dX8_plainRustles_6 : decode cX8_plainRustles 6 = .ok (.aload_n 0, 1) := by decide +kernel
theorem dX8_plainRustles_7 : decode cX8_plainRustles 7 = .ok (.iload_n 1, 1) := by decide +kernel
theorem dX8_plainRustles_8 : decode cX8_plainRustles 8 = .ok (.iload_n 2, 1) := by decide +kernel
theorem dX8_plainRustles_9 : decode cX8_plainRustles 9 = .ok (.invokevirtual 241, 3) := by decide +kernel
theorem dX8_plainRustles_12 : decode cX8_plainRustles 12 = .ok (.iconst 2, 1) := by decide +kernel
theorem dX8_plainRustles_13 : decode cX8_plainRustles 13 = .ok (.imul, 1) := by decide +kernel
theorem dX8_plainRustles_14 : decode cX8_plainRustles 14 = .ok (.ireturn, 1) := by decide +kernel
theorem dX8_paperRustles_0 : decode cX8_paperRustles 0 = .ok (.aload_n 0, 1) := by decide +kernel
theorem dX8_paperRustles_1 : decode cX8_paperRustles 1 = .ok (.bipush 30, 2) := by decide +kernel
theorem dX8_paperRustles_3 : decode cX8_paperRustles 3 = .ok (.invokevirtual 232, 3) := by decide +kernel
theorem dX8_paperRustles_6 : decode cX8_paperRustles 6 = .ok (.aload_n 0, 1) := by decide +kernel
theorem dX8_paperRustles_7 : decode cX8_paperRustles 7 = .ok (.iload_n 1, 1) := by decide +kernel
theorem dX8_paperRustles_8 : decode cX8_paperRustles 8 = .ok (.iload_n 2, 1) := by decide +kernel
theorem dX8_paperRustles_9 : decode cX8_paperRustles 9 = .ok (.invokevirtual 244, 3) := by decide +kernel
theorem dX8_paperRustles_12 : decode cX8_paperRustles 12 = .ok (.ineg, 1) := by decide +kernel
theorem dX8_paperRustles_13 : decode cX8_paperRustles 13 = .ok (.ireturn, 1) := by decide +kernel
theorem dX8_rustles_0 : decode cX8_rustles 0 = .ok (.aload_n 0, 1) := by decide +kernel
theorem dX8_rustles_1 : decode cX8_rustles 1 = .ok (.iload_n 1, 1) := by decide +kernel
theorem dX8_rustles_2 : decode cX8_rustles 2 = .ok (.iconst 0, 1) := by decide +kernel
theorem dX8_rustles_3 : decode cX8_rustles 3 = .ok (.invokevirtual 61, 3) := by decide +kernel
theorem dX8_rustles_6 : decode cX8_rustles 6 = .ok (.tableswitch 76 2 6 #[34, 76, 76, 41, 56], 34) := by decide +kernel
theorem dX8_rustles_40 : decode cX8_rustles 40 = .ok (.aload_n 0, 1) := by decide +kernel
theorem dX8_rustles_41 : decode cX8_rustles 41 = .ok (.iload_n 1, 1) := by decide +kernel
theorem dX8_rustles_42 : decode cX8_rustles 42 = .ok (.iload_n 2, 1) := by decide +kernel
theorem dX8_rustles_43 : decode cX8_rustles 43 = .ok (.invokevirtual 247, 3) := by decide +kernel
theorem dX8_rustles_46 : decode cX8_rustles 46 = .ok (.ireturn, 1) := by decide +kernel
theorem dX8_rustles_47 : decode cX8_rustles 47 = .ok (.aload_n 0, 1) := by decide +kernel
theorem dX8_rustles_48 : decode cX8_rustles 48 = .ok (.bipush 60, 2) := by decide +kernel
theorem dX8_rustles_50 : decode cX8_rustles 50 = .ok (.invokevirtual 232, 3) := by decide +kernel
theorem dX8_rustles_53 : decode cX8_rustles 53 = .ok (.aload_n 0, 1) := by decide +kernel
theorem dX8_rustles_54 : decode cX8_rustles 54 = .ok (.iload_n 1, 1) := by decide +kernel
theorem dX8_rustles_55 : decode cX8_rustles 55 = .ok (.iload_n 2, 1) := by decide +kernel
theorem dX8_rustles_56 : decode cX8_rustles 56 = .ok (.iconst 1, 1) := by decide +kernel
theorem dX8_rustles_57 : decode cX8_rustles 57 = .ok (.iadd, 1) := by decide +kernel
theorem dX8_rustles_58 : decode cX8_rustles 58 = .ok (.invokevirtual 247, 3) := by decide +kernel
theorem dX8_rustles_61 : decode cX8_rustles 61 = .ok (.ireturn, 1) := by decide +kernel
theorem dX8_rustles_62 : decode cX8_rustles 62 = .ok (.aload_n 0, 1) := by decide +kernel
theorem dX8_rustles_63 : decode cX8_rustles 63 = .ok (.bipush 71, 2) := by decide +kernel
theorem dX8_rustles_65 : decode cX8_rustles 65 = .ok (.invokevirtual 232, 3) := by decide +kernel
theorem dX8_rustles_68 : decode cX8_rustles 68 = .ok (.aload_n 0, 1) := by decide +kernel
theorem dX8_rustles_69 : decode cX8_rustles 69 = .ok (.iload_n 1, 1) := by decide +kernel
theorem dX8_rustles_70 : decode cX8_rustles 70 = .ok (.iload_n 2, 1) := by decide +kernel
theorem dX8_rustles_71 : decode cX8_rustles 71 = .ok (.invokevirtual 244, 3) := by decide +kernel
theorem dX8_rustles_74 : decode cX8_rustles 74 = .ok (.aload_n 0, 1) := by decide +kernel
theorem dX8_rustles_75 : decode cX8_rustles 75 = .ok (.iload_n 1, 1) := by decide +kernel
theorem dX8_rustles_76 : decode cX8_rustles 76 = .ok (.iconst 1, 1) := by decide +kernel
theorem dX8_rustles_77 : decode cX8_rustles 77 = .ok (.invokevirtual 61, 3) := by decide +kernel
theorem dX8_rustles_80 : decode cX8_rustles 80 = .ok (.iadd, 1) := by decide +kernel
theorem dX8_rustles_81 : decode cX8_rustles 81 = .ok (.ireturn, 1) := by decide +kernel
theorem dX8_rustles_82 : decode cX8_rustles 82 = .ok (.aload_n 0, 1) := by decide +kernel
theorem dX8_rustles_83 : decode cX8_rustles 83 = .ok (.iload_n 1, 1) := by decide +kernel
theorem dX8_rustles_84 : decode cX8_rustles 84 = .ok (.iload_n 2, 1) := by decide +kernel
theorem dX8_rustles_85 : decode cX8_rustles 85 = .ok (.invokevirtual 244, 3) := by decide +kernel
theorem dX8_rustles_88 : decode cX8_rustles 88 = .ok (.ireturn, 1) := by decide +kernel
theorem dX8_plainRings_0 : decode cX8_plainRings 0 = .ok (.aload_n 0, 1) := by decide +kernel
theorem dX8_plainRings_1 : decode cX8_plainRings 1 = .ok (.bipush 12, 2) := by decide +kernel
theorem dX8_plainRings_3 : decode cX8_plainRings 3 = .ok (.invokevirtual 232, 3) := by decide +kernel
theorem dX8_plainRings_6 : decode cX8_plainRings 6 = .ok (.aload_n 0, 1) := by decide +kernel
theorem dX8_plainRings_7 : decode cX8_plainRings 7 = .ok (.iload_n 1, 1) := by decide +kernel
theorem dX8_plainRings_8 : decode cX8_plainRings 8 = .ok (.iload_n 2, 1) := by decide +kernel
theorem dX8_plainRings_9 : decode cX8_plainRings 9 = .ok (.invokevirtual 250, 3) := by decide +kernel
theorem dX8_plainRings_12 : decode cX8_plainRings 12 = .ok (.aload_n 0, 1) := by decide +kernel
theorem dX8_plainRings_13 : decode cX8_plainRings 13 = .ok (.iload_n 1, 1) := by decide +kernel
theorem dX8_plainRings_14 : decode cX8_plainRings 14 = .ok (.iconst 1, 1) := by decide +kernel
theorem dX8_plainRings_15 : decode cX8_plainRings 15 = .ok (.invokevirtual 61, 3) := by decide +kernel
theorem dX8_plainRings_18 : decode cX8_plainRings 18 = .ok (.isub, 1) := by decide +kernel
theorem dX8_plainRings_19 : decode cX8_plainRings 19 = .ok (.ireturn, 1) := by decide +kernel
theorem dX8_rings_0 : decode cX8_rings 0 = .ok (.aload_n 0, 1) := by decide +kernel
theorem dX8_rings_1 : decode cX8_rings 1 = .ok (.iload_n 1, 1) := by decide +kernel
theorem dX8_rings_2 : decode cX8_rings 2 = .ok (.iconst 0, 1) := by decide +kernel
theorem dX8_rings_3 : decode cX8_rings 3 = .ok (.invokevirtual 61, 3) := by decide +kernel
theorem dX8_rings_6 : decode cX8_rings 6 = .ok (.lookupswitch 56 #[(3, 26), (4, 41)], 26) := by decide +kernel
theorem dX8_rings_32 : decode cX8_rings 32 = .ok (.aload_n 0, 1) := by decide +kernel
theorem dX8_rings_33 : decode cX8_rings 33 = .ok (.bipush 40, 2) := by decide +kernel
theorem dX8_rings_35 : decode cX8_rings 35 = .ok (.invokevirtual 232, 3) := by decide +kernel
theorem dX8_rings_38 : decode cX8_rings 38 = .ok (.aload_n 0, 1) := by decide +kernel
theorem dX8_rings_39 : decode cX8_rings 39 = .ok (.iload_n 1, 1) := by decide +kernel
theorem dX8_rings_40 : decode cX8_rings 40 = .ok (.iload_n 2, 1) := by decide +kernel
theorem dX8_rings_41 : decode cX8_rings 41 = .ok (.iconst 2, 1) := by decide +kernel
theorem dX8_rings_42 : decode cX8_rings 42 = .ok (.idiv, 1) := by decide +kernel
theorem dX8_rings_43 : decode cX8_rings 43 = .ok (.invokevirtual 253, 3) := by decide +kernel
theorem dX8_rings_46 : decode cX8_rings 46 = .ok (.ireturn, 1) := by decide +kernel
theorem dX8_rings_47 : decode cX8_rings 47 = .ok (.aload_n 0, 1) := by decide +kernel
theorem dX8_rings_48 : decode cX8_rings 48 = .ok (.bipush 51, 2) := by decide +kernel
theorem dX8_rings_50 : decode cX8_rings 50 = .ok (.invokevirtual 232, 3) := by decide +kernel
theorem dX8_rings_53 : decode cX8_rings 53 = .ok (.aload_n 0, 1) := by decide +kernel
theorem dX8_rings_54 : decode cX8_rings 54 = .ok (.iload_n 1, 1) := by decide +kernel
theorem dX8_rings_55 : decode cX8_rings 55 = .ok (.iload_n 2, 1) := by decide +kernel
theorem dX8_rings_56 : decode cX8_rings 56 = .ok (.invokevirtual 253, 3) := by decide +kernel
theorem dX8_rings_59 : decode cX8_rings 59 = .ok (.iload_n 1, 1) := by decide +kernel
theorem dX8_rings_60 : decode cX8_rings 60 = .ok (.ixor, 1) := by decide +kernel
theorem dX8_rings_61 : decode cX8_rings 61 = .ok (.ireturn, 1) := by decide +kernel
theorem dX8_rings_62 : decode cX8_rings 62 = .ok (.aload_n 0, 1) := by decide +kernel
theorem dX8_rings_63 : decode cX8_rings 63 = .ok (.iload_n 1, 1) := by decide +kernel
theorem dX8_rings_64 : decode cX8_rings 64 = .ok (.iload_n 2, 1) := by decide +kernel
theorem dX8_rings_65 : decode cX8_rings 65 = .ok (.invokevirtual 253, 3) := by decide +kernel
theorem dX8_rings_68 : decode cX8_rings 68 = .ok (.ireturn, 1) := by decide +kernel
theorem dX8_plainParts_0 : decode cX8_plainParts 0 = .ok (.aload_n 0, 1) := by decide +kernel
theorem dX8_plainParts_1 : decode cX8_plainParts 1 = .ok (.bipush 13, 2) := by decide +kernel
theorem dX8_plainParts_3 : decode cX8_plainParts 3 = .ok (.invokevirtual 232, 3) := by decide +kernel
theorem dX8_plainParts_6 : decode cX8_plainParts 6 = .ok (.aload_n 0, 1) := by decide +kernel
theorem dX8_plainParts_7 : decode cX8_plainParts 7 = .ok (.iload_n 1, 1) := by decide +kernel
theorem dX8_plainParts_8 : decode cX8_plainParts 8 = .ok (.iconst 1, 1) := by decide +kernel
theorem dX8_plainParts_9 : decode cX8_plainParts 9 = .ok (.invokevirtual 61, 3) := by decide +kernel
theorem dX8_plainParts_12 : decode cX8_plainParts 12 = .ok (.iload_n 1, 1) := by decide +kernel
theorem dX8_plainParts_13 : decode cX8_plainParts 13 = .ok (.isub, 1) := by decide +kernel
theorem dX8_plainParts_14 : decode cX8_plainParts 14 = .ok (.istore_n 3, 1) := by decide +kernel
theorem dX8_plainParts_15 : decode cX8_plainParts 15 = .ok (.aload_n 0, 1) := by decide +kernel
theorem dX8_plainParts_16 : decode cX8_plainParts 16 = .ok (.iload_n 3, 1) := by decide +kernel
theorem dX8_plainParts_17 : decode cX8_plainParts 17 = .ok (.ifCond .ne 7, 3) := by decide +kernel
theorem dX8_plainParts_20 : decode cX8_plainParts 20 = .ok (.iconst 1, 1) := by decide +kernel
theorem dX8_plainParts_21 : decode cX8_plainParts 21 = .ok (.goto 4, 3) := by decide +kernel
theorem dX8_plainParts_24 : decode cX8_plainParts 24 = .ok (.iconst 0, 1) := by decide +kernel
theorem dX8_plainParts_25 : decode cX8_plainParts 25 = .ok (.putfield 256, 3) := by decide +kernel
theorem dX8_plainParts_28 : decode cX8_plainParts 28 = .ok (.aload_n 0, 1) := by decide +kernel
theorem dX8_plainParts_29 : decode cX8_plainParts 29 = .ok (.getfield 256, 3) := by decide +kernel
theorem dX8_plainParts_32 : decode cX8_plainParts 32 = .ok (.ifCond .eq 7, 3) := by decide +kernel
theorem dX8_plainParts_35 : decode cX8_plainParts 35 = .ok (.iconst 0, 1) := by decide +kernel
theorem dX8_plainParts_36 : decode cX8_plainParts 36 = .ok (.goto 6, 3) := by decide +kernel
theorem dX8_plainParts_39 : decode cX8_plainParts 39 = .ok (.iload_n 2, 1) := by decide +kernel
theorem dX8_plainParts_40 : decode cX8_plainParts 40 = .ok (.iload_n 3, 1) := by decide +kernel
theorem dX8_plainParts_41 : decode cX8_plainParts 41 = .ok (.idiv, 1) := by decide +kernel
theorem dX8_plainParts_42 : decode cX8_plainParts 42 = .ok (.ireturn, 1) := by decide +kernel
theorem dX8_parts_0 : decode cX8_parts 0 = .ok (.aload_n 0, 1) := by decide +kernel
theorem dX8_parts_1 : decode cX8_parts 1 = .ok (.iload_n 1, 1) := by decide +kernel
theorem dX8_parts_2 : decode cX8_parts 2 = .ok (.iconst 0, 1) := by decide +kernel
theorem dX8_parts_3 : decode cX8_parts 3 = .ok (.invokevirtual 61, 3) := by decide +kernel
theorem dX8_parts_6 : decode cX8_parts 6 = .ok (.iconst 1, 1) := by decide +kernel
theorem dX8_parts_7 : decode cX8_parts 7 = .ok (.if_icmp .eq 13, 3) := by decide +kernel
theorem dX8_parts_10 : decode cX8_parts 10 = .ok (.aload_n 0, 1) := by decide +kernel
theorem dX8_parts_11 : decode cX8_parts 11 = .ok (.iload_n 1, 1) := by decide +kernel
theorem dX8_parts_12 : decode cX8_parts 12 = .ok (.iconst 0, 1) := by decide +kernel
theorem dX8_parts_13 : decode cX8_parts 13 = .ok (.invokevirtual 61, 3) := by decide +kernel
theorem dX8_parts_16 : decode cX8_parts 16 = .ok (.iconst 4, 1) := by decide +kernel
theorem dX8_parts_17 : decode cX8_parts 17 = .ok (.if_icmp .ne 36, 3) := by decide +kernel
theorem dX8_parts_20 : decode cX8_parts 20 = .ok (.aload_n 0, 1) := by decide +kernel
theorem dX8_parts_21 : decode cX8_parts 21 = .ok (.bipush 21, 2) := by decide +kernel
theorem dX8_parts_23 : decode cX8_parts 23 = .ok (.invokevirtual 232, 3) := by decide +kernel
theorem dX8_parts_26 : decode cX8_parts 26 = .ok (.aload_n 0, 1) := by decide +kernel
theorem dX8_parts_27 : decode cX8_parts 27 = .ok (.iload_n 1, 1) := by decide +kernel
theorem dX8_parts_28 : decode cX8_parts 28 = .ok (.iload_n 2, 1) := by decide +kernel
theorem dX8_parts_29 : decode cX8_parts 29 = .ok (.invokevirtual 259, 3) := by decide +kernel
theorem dX8_parts_32 : decode cX8_parts 32 = .ok (.istore_n 3, 1) := by decide +kernel
theorem dX8_parts_33 : decode cX8_parts 33 = .ok (.aload_n 0, 1) := by decide +kernel
theorem dX8_parts_34 : decode cX8_parts 34 = .ok (.getfield 256, 3) := by decide +kernel
theorem dX8_parts_37 : decode cX8_parts 37 = .ok (.ifCond .eq 7, 3) := by decide +kernel
theorem dX8_parts_40 : decode cX8_parts 40 = .ok (.iconst 0, 1) := by decide +kernel
theorem dX8_parts_41 : decode cX8_parts 41 = .ok (.goto 11, 3) := by decide +kernel
theorem dX8_parts_44 : decode cX8_parts 44 = .ok (.iload_n 3, 1) := by decide +kernel
theorem dX8_parts_45 : decode cX8_parts 45 = .ok (.aload_n 0, 1) := by decide +kernel
theorem dX8_parts_46 : decode cX8_parts 46 = .ok (.iload_n 1, 1) := by decide +kernel
theorem dX8_parts_47 : decode cX8_parts 47 = .ok (.iconst 1, 1) := by decide +kernel
theorem dX8_parts_48 : decode cX8_parts 48 = .ok (.invokevirtual 250, 3) := by decide +kernel
theorem dX8_parts_51 : decode cX8_parts 51 = .ok (.iadd, 1) := by decide +kernel
theorem dX8_parts_52 : decode cX8_parts 52 = .ok (.ireturn, 1) := by decide +kernel
theorem dX8_parts_53 : decode cX8_parts 53 = .ok (.aload_n 0, 1) := by decide +kernel
theorem dX8_parts_54 : decode cX8_parts 54 = .ok (.iload_n 1, 1) := by decide +kernel
theorem dX8_parts_55 : decode cX8_parts 55 = .ok (.iload_n 2, 1) := by decide +kernel
theorem dX8_parts_56 : decode cX8_parts 56 = .ok (.invokevirtual 259, 3) := by decide +kernel
theorem dX8_parts_59 : decode cX8_parts 59 = .ok (.ireturn, 1) := by decide +kernel
theorem dX8_voice_0 : decode cX8_voice 0 = .ok (.aload_n 0, 1) := by decide +kernel
theorem dX8_voice_1 : decode cX8_voice 1 = .ok (.iload_n 1, 1) := by decide +kernel
theorem dX8_voice_2 : decode cX8_voice 2 = .ok (.invokevirtual 86, 3) := by decide +kernel
theorem dX8_voice_5 : decode cX8_voice 5 = .ok (.ifCond .eq 12, 3) := by decide +kernel
theorem dX8_voice_8 : decode cX8_voice 8 = .ok (.iload_n 2, 1) := by decide +kernel
theorem dX8_voice_9 : decode cX8_voice 9 = .ok (.iconst 0, 1) := by decide +kernel
theorem dX8_voice_10 : decode cX8_voice 10 = .ok (.iconst 3, 1) := by decide +kernel
theorem dX8_voice_11 : decode cX8_voice 11 = .ok (.invokestatic 57, 3) := by decide +kernel
theorem dX8_voice_14 : decode cX8_voice 14 = .ok (.ifCond .ne 10, 3) := by decide +kernel
theorem dX8_voice_17 : decode cX8_voice 17 = .ok (.aload_n 0, 1) := by decide +kernel
theorem dX8_voice_18 : decode cX8_voice 18 = .ok (.ldc 77, 2) := by decide +kernel
theorem dX8_voice_20 : decode cX8_voice 20 = .ok (.invokevirtual 78, 3) := by decide +kernel
theorem dX8_voice_23 : decode cX8_voice 23 = .ok (.ireturn, 1) := by decide +kernel
theorem dX8_voice_24 : decode cX8_voice 24 = .ok (.aload_n 0, 1) := by decide +kernel
theorem dX8_voice_25 : decode cX8_voice 25 = .ok (.iconst 0, 1) := by decide +kernel
theorem dX8_voice_26 : decode cX8_voice 26 = .ok (.putfield 229, 3) := by decide +kernel
theorem dX8_voice_29 : decode cX8_voice 29 = .ok (.aload_n 0, 1) := by decide +kernel
theorem dX8_voice_30 : decode cX8_voice 30 = .ok (.iconst 0, 1) := by decide +kernel
theorem dX8_voice_31 : decode cX8_voice 31 = .ok (.putfield 256, 3) := by decide +kernel
theorem dX8_voice_34 : decode cX8_voice 34 = .ok (.iload_n 2, 1) := by decide +kernel
theorem dX8_voice_35 : decode cX8_voice 35 = .ok (.ifCond .ne 12, 3) := by decide +kernel
theorem dX8_voice_38 : decode cX8_voice 38 = .ok (.aload_n 0, 1) := by decide +kernel
theorem dX8_voice_39 : decode cX8_voice 39 = .ok (.iload_n 1, 1) := by decide +kernel
theorem dX8_voice_40 : decode cX8_voice 40 = .ok (.iload_n 3, 1) := by decide +kernel
theorem dX8_voice_41 : decode cX8_voice 41 = .ok (.invokevirtual 241, 3) := by decide +kernel
theorem dX8_voice_44 : decode cX8_voice 44 = .ok (.goto 37, 3) := by decide +kernel
theorem dX8_voice_47 : decode cX8_voice 47 = .ok (.iload_n 2, 1) := by decide +kernel
theorem dX8_voice_48 : decode cX8_voice 48 = .ok (.iconst 1, 1) := by decide +kernel
theorem dX8_voice_49 : decode cX8_voice 49 = .ok (.if_icmp .ne 12, 3) := by decide +kernel
theorem dX8_voice_52 : decode cX8_voice 52 = .ok (.aload_n 0, 1) := by decide +kernel
theorem dX8_voice_53 : decode cX8_voice 53 = .ok (.iload_n 1, 1) := by decide +kernel
theorem dX8_voice_54 : decode cX8_voice 54 = .ok (.iload_n 3, 1) := by decide +kernel
theorem dX8_voice_55 : decode cX8_voice 55 = .ok (.invokevirtual 250, 3) := by decide +kernel
theorem dX8_voice_58 : decode cX8_voice 58 = .ok (.goto 23, 3) := by decide +kernel
theorem dX8_voice_61 : decode cX8_voice 61 = .ok (.iload_n 2, 1) := by decide +kernel
theorem dX8_voice_62 : decode cX8_voice 62 = .ok (.iconst 2, 1) := by decide +kernel
theorem dX8_voice_63 : decode cX8_voice 63 = .ok (.if_icmp .ne 12, 3) := by decide +kernel
theorem dX8_voice_66 : decode cX8_voice 66 = .ok (.aload_n 0, 1) := by decide +kernel
theorem dX8_voice_67 : decode cX8_voice 67 = .ok (.iload_n 1, 1) := by decide +kernel
theorem dX8_voice_68 : decode cX8_voice 68 = .ok (.iload_n 3, 1) := by decide +kernel
theorem dX8_voice_69 : decode cX8_voice 69 = .ok (.invokevirtual 262, 3) := by decide +kernel
theorem dX8_voice_72 : decode cX8_voice 72 = .ok (.goto 9, 3) := by decide +kernel
theorem dX8_voice_75 : decode cX8_voice 75 = .ok (.aload_n 0, 1) := by decide +kernel
theorem dX8_voice_76 : decode cX8_voice 76 = .ok (.iload_n 1, 1) := by decide +kernel
theorem dX8_voice_77 : decode cX8_voice 77 = .ok (.iload_n 3, 1) := by decide +kernel
theorem dX8_voice_78 : decode cX8_voice 78 = .ok (.invokevirtual 265, 3) := by decide +kernel
theorem dX8_voice_81 : decode cX8_voice 81 = .ok (.istore 4, 2) := by decide +kernel
theorem dX8_voice_83 : decode cX8_voice 83 = .ok (.aload_n 0, 1) := by decide +kernel
theorem dX8_voice_84 : decode cX8_voice 84 = .ok (.getfield 256, 3) := by decide +kernel
theorem dX8_voice_87 : decode cX8_voice 87 = .ok (.ifCond .eq 13, 3) := by decide +kernel
theorem dX8_voice_90 : decode cX8_voice 90 = .ok (.aload_n 0, 1) := by decide +kernel
theorem dX8_voice_91 : decode cX8_voice 91 = .ok (.ldc_w 268, 3) := by decide +kernel
theorem dX8_voice_94 : decode cX8_voice 94 = .ok (.invokevirtual 78, 3) := by decide +kernel
theorem dX8_voice_97 : decode cX8_voice 97 = .ok (.goto 5, 3) := by decide +kernel
theorem dX8_voice_100 : decode cX8_voice 100 = .ok (.iload 4, 2) := by decide +kernel
theorem dX8_voice_102 : decode cX8_voice 102 = .ok (.ireturn, 1) := by decide +kernel
theorem dX8_body_0 : decode cX8_body 0 = .ok (.iload_n 1, 1) := by decide +kernel
theorem dX8_body_1 : decode cX8_body 1 = .ok (.iconst 0, 1) := by decide +kernel
theorem dX8_body_2 : decode cX8_body 2 = .ok (.aload_n 0, 1) := by decide +kernel
theorem dX8_body_3 : decode cX8_body 3 = .ok (.getfield 229, 3) := by decide +kernel
theorem dX8_body_6 : decode cX8_body 6 = .ok (.iconst 1, 1) := by decide +kernel
theorem dX8_body_7 : decode cX8_body 7 = .ok (.isub, 1) := by decide +kernel
theorem dX8_body_8 : decode cX8_body 8 = .ok (.invokestatic 57, 3) := by decide +kernel
theorem dX8_body_11 : decode cX8_body 11 = .ok (.ifCond .eq 12, 3) := by decide +kernel
theorem dX8_body_14 : decode cX8_body 14 = .ok (.aload_n 0, 1) := by decide +kernel
theorem dX8_body_15 : decode cX8_body 15 = .ok (.getfield 49, 3) := by decide +kernel
theorem dX8_body_18 : decode cX8_body 18 = .ok (.iload_n 1, 1) := by decide +kernel
theorem dX8_body_19 : decode cX8_body 19 = .ok (.iaload, 1) := by decide +kernel
theorem dX8_body_20 : decode cX8_body 20 = .ok (.goto 9, 3) := by decide +kernel
theorem dX8_body_23 : decode cX8_body 23 = .ok (.aload_n 0, 1) := by decide +kernel
theorem dX8_body_24 : decode cX8_body 24 = .ok (.ldc 203, 2) := by decide +kernel
theorem dX8_body_26 : decode cX8_body 26 = .ok (.invokevirtual 78, 3) := by decide +kernel
theorem dX8_body_29 : decode cX8_body 29 = .ok (.ireturn, 1) := by decide +kernel
theorem dX8_isSheet_0 : decode cX8_isSheet 0 = .ok (.iload_n 0, 1) := by decide +kernel
theorem dX8_isSheet_1 : decode cX8_isSheet 1 = .ok (.iconst 0, 1) := by decide +kernel
theorem dX8_isSheet_2 : decode cX8_isSheet 2 = .ok (.iconst 3, 1) := by decide +kernel
theorem dX8_isSheet_3 : decode cX8_isSheet 3 = .ok (.invokestatic 57, 3) := by decide +kernel
theorem dX8_isSheet_6 : decode cX8_isSheet 6 = .ok (.ireturn, 1) := by decide +kernel
theorem dX8_sheet_0 : decode cX8_sheet 0 = .ok (.iload_n 1, 1) := by decide +kernel
theorem dX8_sheet_1 : decode cX8_sheet 1 = .ok (.invokestatic 269, 3) := by decide +kernel
theorem dX8_sheet_4 : decode cX8_sheet 4 = .ok (.ifCond .eq 25, 3) := by decide +kernel
theorem dX8_sheet_7 : decode cX8_sheet 7 = .ok (.iload_n 2, 1) := by decide +kernel
theorem dX8_sheet_8 : decode cX8_sheet 8 = .ok (.ifCond .eq 28, 3) := by decide +kernel
theorem dX8_sheet_11 : decode cX8_sheet 11 = .ok (.iload_n 2, 1) := by decide +kernel
theorem dX8_sheet_12 : decode cX8_sheet 12 = .ok (.bipush 8, 2) := by decide +kernel
theorem dX8_sheet_14 : decode cX8_sheet 14 = .ok (.if_icmp .eq 22, 3) := by decide +kernel
theorem dX8_sheet_17 : decode cX8_sheet 17 = .ok (.iload_n 2, 1) := by decide +kernel
theorem dX8_sheet_18 : decode cX8_sheet 18 = .ok (.bipush 16, 2) := by decide +kernel
theorem dX8_sheet_20 : decode cX8_sheet 20 = .ok (.if_icmp .eq 16, 3) := by decide +kernel
theorem dX8_sheet_23 : decode cX8_sheet 23 = .ok (.iload_n 2, 1) := by decide +kernel
theorem dX8_sheet_24 : decode cX8_sheet 24 = .ok (.bipush 32, 2) := by decide +kernel
theorem dX8_sheet_26 : decode cX8_sheet 26 = .ok (.if_icmp .eq 10, 3) := by decide +kernel
theorem dX8_sheet_29 : decode cX8_sheet 29 = .ok (.aload_n 0, 1) := by decide +kernel
theorem dX8_sheet_30 : decode cX8_sheet 30 = .ok (.ldc 77, 2) := by decide +kernel
theorem dX8_sheet_32 : decode cX8_sheet 32 = .ok (.invokevirtual 78, 3) := by decide +kernel
theorem dX8_sheet_35 : decode cX8_sheet 35 = .ok (.ireturn, 1) := by decide +kernel
theorem dX8_sheet_36 : decode cX8_sheet 36 = .ok (.iload_n 2, 1) := by decide +kernel
theorem dX8_sheet_37 : decode cX8_sheet 37 = .ok (.ifCond .le 14, 3) := by decide +kernel
theorem dX8_sheet_40 : decode cX8_sheet 40 = .ok (.iload_n 3, 1) := by decide +kernel
theorem dX8_sheet_41 : decode cX8_sheet 41 = .ok (.ifCond .ge 10, 3) := by decide +kernel
theorem dX8_sheet_44 : decode cX8_sheet 44 = .ok (.aload_n 0, 1) := by decide +kernel
theorem dX8_sheet_45 : decode cX8_sheet 45 = .ok (.ldc 99, 2) := by decide +kernel
theorem dX8_sheet_47 : decode cX8_sheet 47 = .ok (.invokevirtual 78, 3) := by decide +kernel
theorem dX8_sheet_50 : decode cX8_sheet 50 = .ok (.ireturn, 1) := by decide +kernel
theorem dX8_sheet_51 : decode cX8_sheet 51 = .ok (.iload_n 2, 1) := by decide +kernel
theorem dX8_sheet_52 : decode cX8_sheet 52 = .ok (.ifCond .le 16, 3) := by decide +kernel
theorem dX8_sheet_55 : decode cX8_sheet 55 = .ok (.iload_n 3, 1) := by decide +kernel
theorem dX8_sheet_56 : decode cX8_sheet 56 = .ok (.bipush 24, 2) := by decide +kernel
theorem dX8_sheet_58 : decode cX8_sheet 58 = .ok (.if_icmp .le 10, 3) := by decide +kernel
theorem dX8_sheet_61 : decode cX8_sheet 61 = .ok (.aload_n 0, 1) := by decide +kernel
theorem dX8_sheet_62 : decode cX8_sheet 62 = .ok (.ldc 77, 2) := by decide +kernel
theorem dX8_sheet_64 : decode cX8_sheet 64 = .ok (.invokevirtual 78, 3) := by decide +kernel
theorem dX8_sheet_67 : decode cX8_sheet 67 = .ok (.ireturn, 1) := by decide +kernel
theorem dX8_sheet_68 : decode cX8_sheet 68 = .ok (.aload_n 0, 1) := by decide +kernel
theorem dX8_sheet_69 : decode cX8_sheet 69 = .ok (.getfield 22, 3) := by decide +kernel
theorem dX8_sheet_72 : decode cX8_sheet 72 = .ok (.iload_n 1, 1) := by decide +kernel
theorem dX8_sheet_73 : decode cX8_sheet 73 = .ok (.iload_n 2, 1) := by decide +kernel
theorem dX8_sheet_74 : decode cX8_sheet 74 = .ok (.iastore, 1) := by decide +kernel
theorem dX8_sheet_75 : decode cX8_sheet 75 = .ok (.aload_n 0, 1) := by decide +kernel
theorem dX8_sheet_76 : decode cX8_sheet 76 = .ok (.getfield 25, 3) := by decide +kernel
theorem dX8_sheet_79 : decode cX8_sheet 79 = .ok (.iload_n 1, 1) := by decide +kernel
theorem dX8_sheet_80 : decode cX8_sheet 80 = .ok (.iload_n 2, 1) := by decide +kernel
theorem dX8_sheet_81 : decode cX8_sheet 81 = .ok (.ifCond .ne 7, 3) := by decide +kernel
theorem dX8_sheet_84 : decode cX8_sheet 84 = .ok (.iconst 0, 1) := by decide +kernel
theorem dX8_sheet_85 : decode cX8_sheet 85 = .ok (.goto 4, 3) := by decide +kernel
theorem dX8_sheet_88 : decode cX8_sheet 88 = .ok (.iload_n 3, 1) := by decide +kernel
theorem dX8_sheet_89 : decode cX8_sheet 89 = .ok (.iastore, 1) := by decide +kernel
theorem dX8_sheet_90 : decode cX8_sheet 90 = .ok (.iconst 0, 1) := by decide +kernel
theorem dX8_sheet_91 : decode cX8_sheet 91 = .ok (.istore 4, 2) := by decide +kernel
theorem dX8_sheet_93 : decode cX8_sheet 93 = .ok (.iload 4, 2) := by decide +kernel
theorem dX8_sheet_95 : decode cX8_sheet 95 = .ok (.bipush 24, 2) := by decide +kernel
theorem dX8_sheet_97 : decode cX8_sheet 97 = .ok (.if_icmp .ge 22, 3) := by decide +kernel
theorem dX8_sheet_100 : decode cX8_sheet 100 = .ok (.aload_n 0, 1) := by decide +kernel
theorem dX8_sheet_101 : decode cX8_sheet 101 = .ok (.getfield 28, 3) := by decide +kernel
theorem dX8_sheet_104 : decode cX8_sheet 104 = .ok (.bipush 24, 2) := by decide +kernel
theorem dX8_sheet_106 : decode cX8_sheet 106 = .ok (.iload_n 1, 1) := by decide +kernel
theorem dX8_sheet_107 : decode cX8_sheet 107 = .ok (.imul, 1) := by decide +kernel
theorem dX8_sheet_108 : decode cX8_sheet 108 = .ok (.iload 4, 2) := by decide +kernel
theorem dX8_sheet_110 : decode cX8_sheet 110 = .ok (.iadd, 1) := by decide +kernel
theorem dX8_sheet_111 : decode cX8_sheet 111 = .ok (.iconst 0, 1) := by decide +kernel
theorem dX8_sheet_112 : decode cX8_sheet 112 = .ok (.iastore, 1) := by decide +kernel
theorem dX8_sheet_113 : decode cX8_sheet 113 = .ok (.iinc 4 1, 3) := by decide +kernel
theorem dX8_sheet_116 : decode cX8_sheet 116 = .ok (.goto (-23), 3) := by decide +kernel
theorem dX8_sheet_119 : decode cX8_sheet 119 = .ok (.iconst 1, 1) := by decide +kernel
theorem dX8_sheet_120 : decode cX8_sheet 120 = .ok (.ireturn, 1) := by decide +kernel
theorem dX8_notThere_0 : decode cX8_notThere 0 = .ok (.iload_n 1, 1) := by decide +kernel
theorem dX8_notThere_1 : decode cX8_notThere 1 = .ok (.invokestatic 269, 3) := by decide +kernel
theorem dX8_notThere_4 : decode cX8_notThere 4 = .ok (.ifCond .ne 8, 3) := by decide +kernel
theorem dX8_notThere_7 : decode cX8_notThere 7 = .ok (.ldc 77, 2) := by decide +kernel
theorem dX8_notThere_9 : decode cX8_notThere 9 = .ok (.goto 18, 3) := by decide +kernel
theorem dX8_notThere_12 : decode cX8_notThere 12 = .ok (.aload_n 0, 1) := by decide +kernel
theorem dX8_notThere_13 : decode cX8_notThere 13 = .ok (.getfield 22, 3) := by decide +kernel
theorem dX8_notThere_16 : decode cX8_notThere 16 = .ok (.iload_n 1, 1) := by decide +kernel
theorem dX8_notThere_17 : decode cX8_notThere 17 = .ok (.iaload, 1) := by decide +kernel
theorem dX8_notThere_18 : decode cX8_notThere 18 = .ok (.ifCond .ne 8, 3) := by decide +kernel
theorem dX8_notThere_21 : decode cX8_notThere 21 = .ok (.ldc 203, 2) := by decide +kernel
theorem dX8_notThere_23 : decode cX8_notThere 23 = .ok (.goto 4, 3) := by decide +kernel
theorem dX8_notThere_26 : decode cX8_notThere 26 = .ok (.iconst 0, 1) := by decide +kernel
theorem dX8_notThere_27 : decode cX8_notThere 27 = .ok (.ireturn, 1) := by decide +kernel
theorem dX8_put_0 : decode cX8_put 0 = .ok (.aload_n 0, 1) := by decide +kernel
theorem dX8_put_1 : decode cX8_put 1 = .ok (.iload_n 1, 1) := by decide +kernel
theorem dX8_put_2 : decode cX8_put 2 = .ok (.invokevirtual 223, 3) := by decide +kernel
theorem dX8_put_5 : decode cX8_put 5 = .ok (.istore 4, 2) := by decide +kernel
theorem dX8_put_7 : decode cX8_put 7 = .ok (.iload 4, 2) := by decide +kernel
theorem dX8_put_9 : decode cX8_put 9 = .ok (.ifCond .ne 24, 3) := by decide +kernel
theorem dX8_put_12 : decode cX8_put 12 = .ok (.iload_n 2, 1) := by decide +kernel
theorem dX8_put_13 : decode cX8_put 13 = .ok (.iconst 0, 1) := by decide +kernel
theorem dX8_put_14 : decode cX8_put 14 = .ok (.aload_n 0, 1) := by decide +kernel
theorem dX8_put_15 : decode cX8_put 15 = .ok (.getfield 25, 3) := by decide +kernel
theorem dX8_put_18 : decode cX8_put 18 = .ok (.iload_n 1, 1) := by decide +kernel
theorem dX8_put_19 : decode cX8_put 19 = .ok (.iaload, 1) := by decide +kernel
theorem dX8_put_20 : decode cX8_put 20 = .ok (.iconst 1, 1) := by decide +kernel
theorem dX8_put_21 : decode cX8_put 21 = .ok (.isub, 1) := by decide +kernel
theorem dX8_put_22 : decode cX8_put 22 = .ok (.invokestatic 57, 3) := by decide +kernel
theorem dX8_put_25 : decode cX8_put 25 = .ok (.ifCond .ne 8, 3) := by decide +kernel
theorem dX8_put_28 : decode cX8_put 28 = .ok (.ldc 77, 2) := by decide +kernel
theorem dX8_put_30 : decode cX8_put 30 = .ok (.goto 5, 3) := by decide +kernel
theorem dX8_put_33 : decode cX8_put 33 = .ok (.iload 4, 2) := by decide +kernel
theorem dX8_put_35 : decode cX8_put 35 = .ok (.istore 4, 2) := by decide +kernel
theorem dX8_put_37 : decode cX8_put 37 = .ok (.iload 4, 2) := by decide +kernel
theorem dX8_put_39 : decode cX8_put 39 = .ok (.ifCond .eq 10, 3) := by decide +kernel
theorem dX8_put_42 : decode cX8_put 42 = .ok (.aload_n 0, 1) := by decide +kernel
theorem dX8_put_43 : decode cX8_put 43 = .ok (.iload 4, 2) := by decide +kernel
theorem dX8_put_45 : decode cX8_put 45 = .ok (.invokevirtual 78, 3) := by decide +kernel
theorem dX8_put_48 : decode cX8_put 48 = .ok (.ireturn, 1) := by decide +kernel
theorem dX8_put_49 : decode cX8_put 49 = .ok (.aload_n 0, 1) := by decide +kernel
theorem dX8_put_50 : decode cX8_put 50 = .ok (.getfield 28, 3) := by decide +kernel
theorem dX8_put_53 : decode cX8_put 53 = .ok (.bipush 24, 2) := by decide +kernel
theorem dX8_put_55 : decode cX8_put 55 = .ok (.iload_n 1, 1) := by decide +kernel
theorem dX8_put_56 : decode cX8_put 56 = .ok (.imul, 1) := by decide +kernel
theorem dX8_put_57 : decode cX8_put 57 = .ok (.iload_n 2, 1) := by decide +kernel
theorem dX8_put_58 : decode cX8_put 58 = .ok (.iadd, 1) := by decide +kernel
theorem dX8_put_59 : decode cX8_put 59 = .ok (.aload_n 0, 1) := by decide +kernel
theorem dX8_put_60 : decode cX8_put 60 = .ok (.getfield 22, 3) := by decide +kernel
theorem dX8_put_63 : decode cX8_put 63 = .ok (.iload_n 1, 1) := by decide +kernel
theorem dX8_put_64 : decode cX8_put 64 = .ok (.iaload, 1) := by decide +kernel
theorem dX8_put_65 : decode cX8_put 65 = .ok (.bipush 8, 2) := by decide +kernel
theorem dX8_put_67 : decode cX8_put 67 = .ok (.if_icmp .ne 8, 3) := by decide +kernel
theorem dX8_put_70 : decode cX8_put 70 = .ok (.iload_n 3, 1) := by decide +kernel
theorem dX8_put_71 : decode cX8_put 71 = .ok (.i2b, 1) := by decide +kernel
theorem dX8_put_72 : decode cX8_put 72 = .ok (.goto 20, 3) := by decide +kernel
theorem dX8_put_75 : decode cX8_put 75 = .ok (.aload_n 0, 1) := by decide +kernel
theorem dX8_put_76 : decode cX8_put 76 = .ok (.getfield 22, 3) := by decide +kernel
theorem dX8_put_79 : decode cX8_put 79 = .ok (.iload_n 1, 1) := by decide +kernel
theorem dX8_put_80 : decode cX8_put 80 = .ok (.iaload, 1) := by decide +kernel
theorem dX8_put_81 : decode cX8_put 81 = .ok (.bipush 16, 2) := by decide +kernel
theorem dX8_put_83 : decode cX8_put 83 = .ok (.if_icmp .ne 8, 3) := by decide +kernel
theorem dX8_put_86 : decode cX8_put 86 = .ok (.iload_n 3, 1) := by decide +kernel
theorem dX8_put_87 : decode cX8_put 87 = .ok (.i2s, 1) := by decide +kernel
theorem dX8_put_88 : decode cX8_put 88 = .ok (.goto 4, 3) := by decide +kernel
theorem dX8_put_91 : decode cX8_put 91 = .ok (.iload_n 3, 1) := by decide +kernel
theorem dX8_put_92 : decode cX8_put 92 = .ok (.iastore, 1) := by decide +kernel
theorem dX8_put_93 : decode cX8_put 93 = .ok (.iconst 1, 1) := by decide +kernel
theorem dX8_put_94 : decode cX8_put 94 = .ok (.ireturn, 1) := by decide +kernel
theorem dX8_notMoved_0 : decode cX8_notMoved 0 = .ok (.iload_n 1, 1) := by decide +kernel
theorem dX8_notMoved_1 : decode cX8_notMoved 1 = .ok (.invokestatic 269, 3) := by decide +kernel
theorem dX8_notMoved_4 : decode cX8_notMoved 4 = .ok (.ifCond .eq 10, 3) := by decide +kernel
theorem dX8_notMoved_7 : decode cX8_notMoved 7 = .ok (.iload_n 3, 1) := by decide +kernel
theorem dX8_notMoved_8 : decode cX8_notMoved 8 = .ok (.invokestatic 269, 3) := by decide +kernel
theorem dX8_notMoved_11 : decode cX8_notMoved 11 = .ok (.ifCond .ne 6, 3) := by decide +kernel
theorem dX8_notMoved_14 : decode cX8_notMoved 14 = .ok (.ldc 77, 2) := by decide +kernel
theorem dX8_notMoved_16 : decode cX8_notMoved 16 = .ok (.ireturn, 1) := by decide +kernel
theorem dX8_notMoved_17 : decode cX8_notMoved 17 = .ok (.aload_n 0, 1) := by decide +kernel
theorem dX8_notMoved_18 : decode cX8_notMoved 18 = .ok (.getfield 22, 3) := by decide +kernel
theorem dX8_notMoved_21 : decode cX8_notMoved 21 = .ok (.iload_n 1, 1) := by decide +kernel
theorem dX8_notMoved_22 : decode cX8_notMoved 22 = .ok (.iaload, 1) := by decide +kernel
theorem dX8_notMoved_23 : decode cX8_notMoved 23 = .ok (.ifCond .eq 12, 3) := by decide +kernel
theorem dX8_notMoved_26 : decode cX8_notMoved 26 = .ok (.aload_n 0, 1) := by decide +kernel
theorem dX8_notMoved_27 : decode cX8_notMoved 27 = .ok (.getfield 22, 3) := by decide +kernel
theorem dX8_notMoved_30 : decode cX8_notMoved 30 = .ok (.iload_n 3, 1) := by decide +kernel
theorem dX8_notMoved_31 : decode cX8_notMoved 31 = .ok (.iaload, 1) := by decide +kernel
theorem dX8_notMoved_32 : decode cX8_notMoved 32 = .ok (.ifCond .ne 6, 3) := by decide +kernel
theorem dX8_notMoved_35 : decode cX8_notMoved 35 = .ok (.ldc 203, 2) := by decide +kernel
theorem dX8_notMoved_37 : decode cX8_notMoved 37 = .ok (.ireturn, 1) := by decide +kernel
theorem dX8_notMoved_38 : decode cX8_notMoved 38 = .ok (.aload_n 0, 1) := by decide +kernel
theorem dX8_notMoved_39 : decode cX8_notMoved 39 = .ok (.getfield 22, 3) := by decide +kernel
theorem dX8_notMoved_42 : decode cX8_notMoved 42 = .ok (.iload_n 1, 1) := by decide +kernel
theorem dX8_notMoved_43 : decode cX8_notMoved 43 = .ok (.iaload, 1) := by decide +kernel
theorem dX8_notMoved_44 : decode cX8_notMoved 44 = .ok (.aload_n 0, 1) := by decide +kernel
theorem dX8_notMoved_45 : decode cX8_notMoved 45 = .ok (.getfield 22, 3) := by decide +kernel
theorem dX8_notMoved_48 : decode cX8_notMoved 48 = .ok (.iload_n 3, 1) := by decide +kernel
theorem dX8_notMoved_49 : decode cX8_notMoved 49 = .ok (.iaload, 1) := by decide +kernel
theorem dX8_notMoved_50 : decode cX8_notMoved 50 = .ok (.if_icmp .eq 6, 3) := by decide +kernel
theorem dX8_notMoved_53 : decode cX8_notMoved 53 = .ok (.ldc 98, 2) := by decide +kernel
theorem dX8_notMoved_55 : decode cX8_notMoved 55 = .ok (.ireturn, 1) := by decide +kernel
theorem dX8_notMoved_56 : decode cX8_notMoved 56 = .ok (.iload 5, 2) := by decide +kernel
theorem dX8_notMoved_58 : decode cX8_notMoved 58 = .ok (.ifCond .lt 43, 3) := by decide +kernel
theorem dX8_notMoved_61 : decode cX8_notMoved 61 = .ok (.iload_n 2, 1) := by decide +kernel
theorem dX8_notMoved_62 : decode cX8_notMoved 62 = .ok (.ifCond .lt 39, 3) := by decide +kernel
theorem dX8_notMoved_65 : decode cX8_notMoved 65 = .ok (.iload 4, 2) := by decide +kernel
theorem dX8_notMoved_67 : decode cX8_notMoved 67 = .ok (.ifCond .lt 34, 3) := by decide +kernel
theorem dX8_notMoved_70 : decode cX8_notMoved 70 = .ok (.iload 5, 2) := by decide +kernel
theorem dX8_notMoved_72 : decode cX8_notMoved 72 = .ok (.aload_n 0, 1) := by decide +kernel
theorem dX8_notMoved_73 : decode cX8_notMoved 73 = .ok (.getfield 25, 3) := by decide +kernel
theorem dX8_notMoved_76 : decode cX8_notMoved 76 = .ok (.iload_n 1, 1) := by decide +kernel
theorem dX8_notMoved_77 : decode cX8_notMoved 77 = .ok (.iaload, 1) := by decide +kernel
theorem dX8_notMoved_78 : decode cX8_notMoved 78 = .ok (.iload_n 2, 1) := by decide +kernel
theorem dX8_notMoved_79 : decode cX8_notMoved 79 = .ok (.isub, 1) := by decide +kernel
theorem dX8_notMoved_80 : decode cX8_notMoved 80 = .ok (.if_icmp .gt 21, 3) := by decide +kernel
theorem dX8_notMoved_83 : decode cX8_notMoved 83 = .ok (.iload 5, 2) := by decide +kernel
theorem dX8_notMoved_85 : decode cX8_notMoved 85 = .ok (.aload_n 0, 1) := by decide +kernel
theorem dX8_notMoved_86 : decode cX8_notMoved 86 = .ok (.getfield 25, 3) := by decide +kernel
theorem dX8_notMoved_89 : decode cX8_notMoved 89 = .ok (.iload_n 3, 1) := by decide +kernel
theorem dX8_notMoved_90 : decode cX8_notMoved 90 = .ok (.iaload, 1) := by decide +kernel
theorem dX8_notMoved_91 : decode cX8_notMoved 91 = .ok (.iload 4, 2) := by decide +kernel
theorem dX8_notMoved_93 : decode cX8_notMoved 93 = .ok (.isub, 1) := by decide +kernel
theorem dX8_notMoved_94 : decode cX8_notMoved 94 = .ok (.if_icmp .gt 7, 3) := by decide +kernel
theorem dX8_notMoved_97 : decode cX8_notMoved 97 = .ok (.iconst 1, 1) := by decide +kernel
theorem dX8_notMoved_98 : decode cX8_notMoved 98 = .ok (.goto 4, 3) := by decide +kernel
theorem dX8_notMoved_101 : decode cX8_notMoved 101 = .ok (.iconst 0, 1) := by decide +kernel
theorem dX8_notMoved_102 : decode cX8_notMoved 102 = .ok (.istore 6, 2) := by decide +kernel
theorem dX8_notMoved_104 : decode cX8_notMoved 104 = .ok (.iload 6, 2) := by decide +kernel
theorem dX8_notMoved_106 : decode cX8_notMoved 106 = .ok (.ifCond .eq 7, 3) := by decide +kernel
theorem dX8_notMoved_109 : decode cX8_notMoved 109 = .ok (.iconst 0, 1) := by decide +kernel
theorem dX8_notMoved_110 : decode cX8_notMoved 110 = .ok (.goto 5, 3) := by decide +kernel
theorem dX8_notMoved_113 : decode cX8_notMoved 113 = .ok (.ldc 77, 2) := by decide +kernel
theorem dX8_notMoved_115 : decode cX8_notMoved 115 = .ok (.ireturn, 1) := by decide +kernel
theorem dX8_move_0 : decode cX8_move 0 = .ok (.aload_n 0, 1) := by decide +kernel
theorem dX8_move_1 : decode cX8_move 1 = .ok (.iload_n 1, 1) := by decide +kernel
theorem dX8_move_2 : decode cX8_move 2 = .ok (.iload_n 2, 1) := by decide +kernel
theorem dX8_move_3 : decode cX8_move 3 = .ok (.iload_n 3, 1) := by decide +kernel
theorem dX8_move_4 : decode cX8_move 4 = .ok (.iload 4, 2) := by decide +kernel
theorem dX8_move_6 : decode cX8_move 6 = .ok (.iload 5, 2) := by decide +kernel
theorem dX8_move_8 : decode cX8_move 8 = .ok (.invokevirtual 272, 3) := by decide +kernel
theorem dX8_move_11 : decode cX8_move 11 = .ok (.istore 6, 2) := by decide +kernel
theorem dX8_move_13 : decode cX8_move 13 = .ok (.iload 6, 2) := by decide +kernel
theorem dX8_move_15 : decode cX8_move 15 = .ok (.ifCond .eq 10, 3) := by decide +kernel
theorem dX8_move_18 : decode cX8_move 18 = .ok (.aload_n 0, 1) := by decide +kernel
theorem dX8_move_19 : decode cX8_move 19 = .ok (.iload 6, 2) := by decide +kernel
theorem dX8_move_21 : decode cX8_move 21 = .ok (.invokevirtual 78, 3) := by decide +kernel
theorem dX8_move_24 : decode cX8_move 24 = .ok (.ireturn, 1) := by decide +kernel
theorem dX8_move_25 : decode cX8_move 25 = .ok (.iconst 0, 1) := by decide +kernel
theorem dX8_move_26 : decode cX8_move 26 = .ok (.istore 7, 2) := by decide +kernel
theorem dX8_move_28 : decode cX8_move 28 = .ok (.iload 7, 2) := by decide +kernel
theorem dX8_move_30 : decode cX8_move 30 = .ok (.iload 5, 2) := by decide +kernel
theorem dX8_move_32 : decode cX8_move 32 = .ok (.if_icmp .ge 58, 3) := by decide +kernel
theorem dX8_move_35 : decode cX8_move 35 = .ok (.iload_n 2, 1) := by decide +kernel
theorem dX8_move_36 : decode cX8_move 36 = .ok (.iload 4, 2) := by decide +kernel
theorem dX8_move_38 : decode cX8_move 38 = .ok (.if_icmp .ge 13, 3) := by decide +kernel
theorem dX8_move_41 : decode cX8_move 41 = .ok (.iload 5, 2) := by decide +kernel
theorem dX8_move_43 : decode cX8_move 43 = .ok (.iconst 1, 1) := by decide +kernel
theorem dX8_move_44 : decode cX8_move 44 = .ok (.isub, 1) := by decide +kernel
theorem dX8_move_45 : decode cX8_move 45 = .ok (.iload 7, 2) := by decide +kernel
theorem dX8_move_47 : decode cX8_move 47 = .ok (.isub, 1) := by decide +kernel
theorem dX8_move_48 : decode cX8_move 48 = .ok (.goto 5, 3) := by decide +kernel
theorem dX8_move_51 : decode cX8_move 51 = .ok (.iload 7, 2) := by decide +kernel
theorem dX8_move_53 : decode cX8_move 53 = .ok (.istore 8, 2) := by decide +kernel
theorem dX8_move_55 : decode cX8_move 55 = .ok (.aload_n 0, 1) := by decide +kernel
theorem dX8_move_56 : decode cX8_move 56 = .ok (.getfield 28, 3) := by decide +kernel
theorem dX8_move_59 : decode cX8_move 59 = .ok (.bipush 24, 2) := by decide +kernel
theorem dX8_move_61 : decode cX8_move 61 = .ok (.iload_n 3, 1) := by decide +kernel
theorem dX8_move_62 : decode cX8_move 62 = .ok (.imul, 1) := by decide +kernel
theorem dX8_move_63 : decode cX8_move 63 = .ok (.iload 4, 2) := by decide +kernel
theorem dX8_move_65 : decode cX8_move 65 = .ok (.iadd, 1) := by decide +kernel
theorem dX8_move_66 : decode cX8_move 66 = .ok (.iload 8, 2) := by decide +kernel
theorem dX8_move_68 : decode cX8_move 68 = .ok (.iadd, 1) := by decide +kernel
theorem dX8_move_69 : decode cX8_move 69 = .ok (.aload_n 0, 1) := by decide +kernel
theorem dX8_move_70 : decode cX8_move 70 = .ok (.getfield 28, 3) := by decide +kernel
theorem dX8_move_73 : decode cX8_move 73 = .ok (.bipush 24, 2) := by decide +kernel
theorem dX8_move_75 : decode cX8_move 75 = .ok (.iload_n 1, 1) := by decide +kernel
theorem dX8_move_76 : decode cX8_move 76 = .ok (.imul, 1) := by decide +kernel
theorem dX8_move_77 : decode cX8_move 77 = .ok (.iload_n 2, 1) := by decide +kernel
theorem dX8_move_78 : decode cX8_move 78 = .ok (.iadd, 1) := by decide +kernel
theorem dX8_move_79 : decode cX8_move 79 = .ok (.iload 8, 2) := by decide +kernel
theorem dX8_move_81 : decode cX8_move 81 = .ok (.iadd, 1) := by decide +kernel
theorem dX8_move_82 : decode cX8_move 82 = .ok (.iaload, 1) := by decide +kernel
theorem dX8_move_83 : decode cX8_move 83 = .ok (.iastore, 1) := by decide +kernel
theorem dX8_move_84 : decode cX8_move 84 = .ok (.iinc 7 1, 3) := by decide +kernel
theorem dX8_move_87 : decode cX8_move 87 = .ok (.goto (-59), 3) := by decide +kernel
theorem dX8_move_90 : decode cX8_move 90 = .ok (.iload 5, 2) := by decide +kernel
theorem dX8_move_92 : decode cX8_move 92 = .ok (.ireturn, 1) := by decide +kernel
theorem dX8_weights_0 : decode cX8_weights 0 = .ok (.aload_n 0, 1) := by decide +kernel
theorem dX8_weights_1 : decode cX8_weights 1 = .ok (.iload_n 1, 1) := by decide +kernel
theorem dX8_weights_2 : decode cX8_weights 2 = .ok (.invokevirtual 223, 3) := by decide +kernel
theorem dX8_weights_5 : decode cX8_weights 5 = .ok (.istore_n 2, 1) := by decide +kernel
theorem dX8_weights_6 : decode cX8_weights 6 = .ok (.iload_n 2, 1) := by decide +kernel
theorem dX8_weights_7 : decode cX8_weights 7 = .ok (.ifCond .eq 9, 3) := by decide +kernel
theorem dX8_weights_10 : decode cX8_weights 10 = .ok (.aload_n 0, 1) := by decide +kernel
theorem dX8_weights_11 : decode cX8_weights 11 = .ok (.iload_n 2, 1) := by decide +kernel
theorem dX8_weights_12 : decode cX8_weights 12 = .ok (.invokevirtual 78, 3) := by decide +kernel
theorem dX8_weights_15 : decode cX8_weights 15 = .ok (.ireturn, 1) := by decide +kernel
theorem dX8_weights_16 : decode cX8_weights 16 = .ok (.iconst 0, 1) := by decide +kernel
theorem dX8_weights_17 : decode cX8_weights 17 = .ok (.istore_n 3, 1) := by decide +kernel
theorem dX8_weights_18 : decode cX8_weights 18 = .ok (.iload_n 3, 1) := by decide +kernel
theorem dX8_weights_19 : decode cX8_weights 19 = .ok (.aload_n 0, 1) := by decide +kernel
theorem dX8_weights_20 : decode cX8_weights 20 = .ok (.getfield 25, 3) := by decide +kernel
theorem dX8_weights_23 : decode cX8_weights 23 = .ok (.iload_n 1, 1) := by decide +kernel
theorem dX8_weights_24 : decode cX8_weights 24 = .ok (.iaload, 1) := by decide +kernel
theorem dX8_weights_25 : decode cX8_weights 25 = .ok (.if_icmp .ge 63, 3) := by decide +kernel
theorem dX8_weights_28 : decode cX8_weights 28 = .ok (.iload_n 3, 1) := by decide +kernel
theorem dX8_weights_29 : decode cX8_weights 29 = .ok (.aload_n 0, 1) := by decide +kernel
theorem dX8_weights_30 : decode cX8_weights 30 = .ok (.getfield 9, 3) := by decide +kernel
theorem dX8_weights_33 : decode cX8_weights 33 = .ok (.iconst 2, 1) := by decide +kernel
theorem dX8_weights_34 : decode cX8_weights 34 = .ok (.iaload, 1) := by decide +kernel
theorem dX8_weights_35 : decode cX8_weights 35 = .ok (.if_icmp .ge 53, 3) := by decide +kernel
theorem dX8_weights_38 : decode cX8_weights 38 = .ok (.aload_n 0, 1) := by decide +kernel
theorem dX8_weights_39 : decode cX8_weights 39 = .ok (.getfield 28, 3) := by decide +kernel
theorem dX8_weights_42 : decode cX8_weights 42 = .ok (.bipush 24, 2) := by decide +kernel
theorem dX8_weights_44 : decode cX8_weights 44 = .ok (.iload_n 1, 1) := by decide +kernel
theorem dX8_weights_45 : decode cX8_weights 45 = .ok (.imul, 1) := by decide +kernel
theorem dX8_weights_46 : decode cX8_weights 46 = .ok (.iload_n 3, 1) := by decide +kernel
theorem dX8_weights_47 : decode cX8_weights 47 = .ok (.iadd, 1) := by decide +kernel
theorem dX8_weights_48 : decode cX8_weights 48 = .ok (.iaload, 1) := by decide +kernel
theorem dX8_weights_49 : decode cX8_weights 49 = .ok (.iconst 0, 1) := by decide +kernel
theorem dX8_weights_50 : decode cX8_weights 50 = .ok (.bipush 99, 2) := by decide +kernel
theorem dX8_weights_52 : decode cX8_weights 52 = .ok (.invokestatic 57, 3) := by decide +kernel
theorem dX8_weights_55 : decode cX8_weights 55 = .ok (.ifCond .eq 33, 3) := by decide +kernel
theorem dX8_weights_58 : decode cX8_weights 58 = .ok (.aload_n 0, 1) := by decide +kernel
theorem dX8_weights_59 : decode cX8_weights 59 = .ok (.getfield 9, 3) := by decide +kernel
theorem dX8_weights_62 : decode cX8_weights 62 = .ok (.bipush 17, 2) := by decide +kernel
theorem dX8_weights_64 : decode cX8_weights 64 = .ok (.iconst 4, 1) := by decide +kernel
theorem dX8_weights_65 : decode cX8_weights 65 = .ok (.iload_n 3, 1) := by decide +kernel
theorem dX8_weights_66 : decode cX8_weights 66 = .ok (.imul, 1) := by decide +kernel
theorem dX8_weights_67 : decode cX8_weights 67 = .ok (.iadd, 1) := by decide +kernel
theorem dX8_weights_68 : decode cX8_weights 68 = .ok (.iconst 2, 1) := by decide +kernel
theorem dX8_weights_69 : decode cX8_weights 69 = .ok (.iadd, 1) := by decide +kernel
theorem dX8_weights_70 : decode cX8_weights 70 = .ok (.aload_n 0, 1) := by decide +kernel
theorem dX8_weights_71 : decode cX8_weights 71 = .ok (.getfield 28, 3) := by decide +kernel
theorem dX8_weights_74 : decode cX8_weights 74 = .ok (.bipush 24, 2) := by decide +kernel
theorem dX8_weights_76 : decode cX8_weights 76 = .ok (.iload_n 1, 1) := by decide +kernel
theorem dX8_weights_77 : decode cX8_weights 77 = .ok (.imul, 1) := by decide +kernel
theorem dX8_weights_78 : decode cX8_weights 78 = .ok (.iload_n 3, 1) := by decide +kernel
theorem dX8_weights_79 : decode cX8_weights 79 = .ok (.iadd, 1) := by decide +kernel
theorem dX8_weights_80 : decode cX8_weights 80 = .ok (.iaload, 1) := by decide +kernel
theorem dX8_weights_81 : decode cX8_weights 81 = .ok (.iastore, 1) := by decide +kernel
theorem dX8_weights_82 : decode cX8_weights 82 = .ok (.iinc 3 1, 3) := by decide +kernel
theorem dX8_weights_85 : decode cX8_weights 85 = .ok (.goto (-67), 3) := by decide +kernel
theorem dX8_weights_88 : decode cX8_weights 88 = .ok (.iload_n 3, 1) := by decide +kernel
theorem dX8_weights_89 : decode cX8_weights 89 = .ok (.ireturn, 1) := by decide +kernel
theorem dX8_judge_0 : decode cX8_judge 0 = .ok (.aload_n 0, 1) := by decide +kernel
theorem dX8_judge_1 : decode cX8_judge 1 = .ok (.iload_n 1, 1) := by decide +kernel
theorem dX8_judge_2 : decode cX8_judge 2 = .ok (.invokevirtual 223, 3) := by decide +kernel
theorem dX8_judge_5 : decode cX8_judge 5 = .ok (.istore_n 2, 1) := by decide +kernel
theorem dX8_judge_6 : decode cX8_judge 6 = .ok (.iload_n 2, 1) := by decide +kernel
theorem dX8_judge_7 : decode cX8_judge 7 = .ok (.ifCond .eq 11, 3) := by decide +kernel
theorem dX8_judge_10 : decode cX8_judge 10 = .ok (.aload_n 0, 1) := by decide +kernel
theorem dX8_judge_11 : decode cX8_judge 11 = .ok (.iload_n 2, 1) := by decide +kernel
theorem dX8_judge_12 : decode cX8_judge 12 = .ok (.invokevirtual 78, 3) := by decide +kernel
theorem dX8_judge_15 : decode cX8_judge 15 = .ok (.goto 8, 3) := by decide +kernel
theorem dX8_judge_18 : decode cX8_judge 18 = .ok (.aload_n 0, 1) := by decide +kernel
theorem dX8_judge_19 : decode cX8_judge 19 = .ok (.iload_n 1, 1) := by decide +kernel
theorem dX8_judge_20 : decode cX8_judge 20 = .ok (.invokevirtual 226, 3) := by decide +kernel
theorem dX8_judge_23 : decode cX8_judge 23 = .ok (.ireturn, 1) := by decide +kernel
theorem dX8_image_0 : decode cX8_image 0 = .ok (.aload_n 0, 1) := by decide +kernel
theorem dX8_image_1 : decode cX8_image 1 = .ok (.getfield 9, 3) := by decide +kernel
theorem dX8_image_4 : decode cX8_image 4 = .ok (.aload_n 0, 1) := by decide +kernel
theorem dX8_image_5 : decode cX8_image 5 = .ok (.getfield 13, 3) := by decide +kernel
theorem dX8_image_8 : decode cX8_image 8 = .ok (.invokestatic 53, 3) := by decide +kernel
theorem dX8_image_11 : decode cX8_image 11 = .ok (.aload_n 0, 1) := by decide +kernel
theorem dX8_image_12 : decode cX8_image 12 = .ok (.dup, 1) := by decide +kernel
theorem dX8_image_13 : decode cX8_image 13 = .ok (.getfield 276, 3) := by decide +kernel
theorem dX8_image_16 : decode cX8_image 16 = .ok (.iconst 1, 1) := by decide +kernel
theorem dX8_image_17 : decode cX8_image 17 = .ok (.iadd, 1) := by decide +kernel
theorem dX8_image_18 : decode cX8_image 18 = .ok (.putfield 276, 3) := by decide +kernel
theorem dX8_image_21 : decode cX8_image 21 = .ok (.aload_n 0, 1) := by decide +kernel
theorem dX8_image_22 : decode cX8_image 22 = .ok (.getfield 276, 3) := by decide +kernel
theorem dX8_image_25 : decode cX8_image 25 = .ok (.ireturn, 1) := by decide +kernel
theorem dX8_restore_0 : decode cX8_restore 0 = .ok (.aload_n 0, 1) := by decide +kernel
theorem dX8_restore_1 : decode cX8_restore 1 = .ok (.getfield 276, 3) := by decide +kernel
theorem dX8_restore_4 : decode cX8_restore 4 = .ok (.ifCond .ne 10, 3) := by decide +kernel
theorem dX8_restore_7 : decode cX8_restore 7 = .ok (.aload_n 0, 1) := by decide +kernel
theorem dX8_restore_8 : decode cX8_restore 8 = .ok (.ldc 203, 2) := by decide +kernel
theorem dX8_restore_10 : decode cX8_restore 10 = .ok (.invokevirtual 78, 3) := by decide +kernel
theorem dX8_restore_13 : decode cX8_restore 13 = .ok (.ireturn, 1) := by decide +kernel
theorem dX8_restore_14 : decode cX8_restore 14 = .ok (.aload_n 0, 1) := by decide +kernel
theorem dX8_restore_15 : decode cX8_restore 15 = .ok (.getfield 13, 3) := by decide +kernel
theorem dX8_restore_18 : decode cX8_restore 18 = .ok (.aload_n 0, 1) := by decide +kernel
theorem dX8_restore_19 : decode cX8_restore 19 = .ok (.getfield 9, 3) := by decide +kernel
theorem dX8_restore_22 : decode cX8_restore 22 = .ok (.invokestatic 53, 3) := by decide +kernel
theorem dX8_restore_25 : decode cX8_restore 25 = .ok (.aload_n 0, 1) := by decide +kernel
theorem dX8_restore_26 : decode cX8_restore 26 = .ok (.getfield 9, 3) := by decide +kernel
theorem dX8_restore_29 : decode cX8_restore 29 = .ok (.iconst 0, 1) := by decide +kernel
theorem dX8_restore_30 : decode cX8_restore 30 = .ok (.iaload, 1) := by decide +kernel
theorem dX8_restore_31 : decode cX8_restore 31 = .ok (.ireturn, 1) := by decide +kernel
theorem dX8_tell_0 : decode cX8_tell 0 = .ok (.aload_n 0, 1) := by decide +kernel
theorem dX8_tell_1 : decode cX8_tell 1 = .ok (.getfield 9, 3) := by decide +kernel
theorem dX8_tell_4 : decode cX8_tell 4 = .ok (.bipush 6, 2) := by decide +kernel
theorem dX8_tell_6 : decode cX8_tell 6 = .ok (.iaload, 1) := by decide +kernel
theorem dX8_tell_7 : decode cX8_tell 7 = .ok (.bipush 24, 2) := by decide +kernel
theorem dX8_tell_9 : decode cX8_tell 9 = .ok (.if_icmp .ne 10, 3) := by decide +kernel
theorem dX8_tell_12 : decode cX8_tell 12 = .ok (.aload_n 0, 1) := by decide +kernel
theorem dX8_tell_13 : decode cX8_tell 13 = .ok (.ldc 81, 2) := by decide +kernel
theorem dX8_tell_15 : decode cX8_tell 15 = .ok (.invokevirtual 78, 3) := by decide +kernel
theorem dX8_tell_18 : decode cX8_tell 18 = .ok (.ireturn, 1) := by decide +kernel
theorem dX8_tell_19 : decode cX8_tell 19 = .ok (.aload_n 0, 1) := by decide +kernel
theorem dX8_tell_20 : decode cX8_tell 20 = .ok (.getfield 9, 3) := by decide +kernel
theorem dX8_tell_23 : decode cX8_tell 23 = .ok (.bipush 113, 2) := by decide +kernel
theorem dX8_tell_25 : decode cX8_tell 25 = .ok (.aload_n 0, 1) := by decide +kernel
theorem dX8_tell_26 : decode cX8_tell 26 = .ok (.getfield 9, 3) := by decide +kernel
theorem dX8_tell_29 : decode cX8_tell 29 = .ok (.bipush 6, 2) := by decide +kernel
theorem dX8_tell_31 : decode cX8_tell 31 = .ok (.iaload, 1) := by decide +kernel
theorem dX8_tell_32 : decode cX8_tell 32 = .ok (.iadd, 1) := by decide +kernel
theorem dX8_tell_33 : decode cX8_tell 33 = .ok (.iload_n 1, 1) := by decide +kernel
theorem dX8_tell_34 : decode cX8_tell 34 = .ok (.iastore, 1) := by decide +kernel
theorem dX8_tell_35 : decode cX8_tell 35 = .ok (.aload_n 0, 1) := by decide +kernel
theorem dX8_tell_36 : decode cX8_tell 36 = .ok (.getfield 9, 3) := by decide +kernel
theorem dX8_tell_39 : decode cX8_tell 39 = .ok (.bipush 6, 2) := by decide +kernel
theorem dX8_tell_41 : decode cX8_tell 41 = .ok (.dup2, 1) := by decide +kernel
theorem dX8_tell_42 : decode cX8_tell 42 = .ok (.iaload, 1) := by decide +kernel
theorem dX8_tell_43 : decode cX8_tell 43 = .ok (.iconst 1, 1) := by decide +kernel
theorem dX8_tell_44 : decode cX8_tell 44 = .ok (.iadd, 1) := by decide +kernel
theorem dX8_tell_45 : decode cX8_tell 45 = .ok (.iastore, 1) := by decide +kernel
theorem dX8_tell_46 : decode cX8_tell 46 = .ok (.aload_n 0, 1) := by decide +kernel
theorem dX8_tell_47 : decode cX8_tell 47 = .ok (.getfield 9, 3) := by decide +kernel
theorem dX8_tell_50 : decode cX8_tell 50 = .ok (.bipush 6, 2) := by decide +kernel
theorem dX8_tell_52 : decode cX8_tell 52 = .ok (.iaload, 1) := by decide +kernel
theorem dX8_tell_53 : decode cX8_tell 53 = .ok (.ireturn, 1) := by decide +kernel
theorem dX8_check_0 : decode cX8_check 0 = .ok (.aload_n 0, 1) := by decide +kernel
theorem dX8_check_1 : decode cX8_check 1 = .ok (.getfield 9, 3) := by decide +kernel
theorem dX8_check_4 : decode cX8_check 4 = .ok (.bipush 6, 2) := by decide +kernel
theorem dX8_check_6 : decode cX8_check 6 = .ok (.iaload, 1) := by decide +kernel
theorem dX8_check_7 : decode cX8_check 7 = .ok (.istore_n 1, 1) := by decide +kernel
theorem dX8_check_8 : decode cX8_check 8 = .ok (.aload_n 0, 1) := by decide +kernel
theorem dX8_check_9 : decode cX8_check 9 = .ok (.getfield 9, 3) := by decide +kernel
theorem dX8_check_12 : decode cX8_check 12 = .ok (.bipush 6, 2) := by decide +kernel
theorem dX8_check_14 : decode cX8_check 14 = .ok (.iconst 0, 1) := by decide +kernel
theorem dX8_check_15 : decode cX8_check 15 = .ok (.iastore, 1) := by decide +kernel
theorem dX8_check_16 : decode cX8_check 16 = .ok (.iconst 0, 1) := by decide +kernel
theorem dX8_check_17 : decode cX8_check 17 = .ok (.istore_n 2, 1) := by decide +kernel
theorem dX8_check_18 : decode cX8_check 18 = .ok (.iload_n 2, 1) := by decide +kernel
theorem dX8_check_19 : decode cX8_check 19 = .ok (.iload_n 1, 1) := by decide +kernel
theorem dX8_check_20 : decode cX8_check 20 = .ok (.if_icmp .ge 44, 3) := by decide +kernel
theorem dX8_check_23 : decode cX8_check 23 = .ok (.iload_n 2, 1) := by decide +kernel
theorem dX8_check_24 : decode cX8_check 24 = .ok (.aload_n 0, 1) := by decide +kernel
theorem dX8_check_25 : decode cX8_check 25 = .ok (.getfield 9, 3) := by decide +kernel
theorem dX8_check_28 : decode cX8_check 28 = .ok (.iconst 3, 1) := by decide +kernel
theorem dX8_check_29 : decode cX8_check 29 = .ok (.iaload, 1) := by decide +kernel
theorem dX8_check_30 : decode cX8_check 30 = .ok (.if_icmp .ge 24, 3) := by decide +kernel
theorem dX8_check_33 : decode cX8_check 33 = .ok (.aload_n 0, 1) := by decide +kernel
theorem dX8_check_34 : decode cX8_check 34 = .ok (.getfield 9, 3) := by decide +kernel
theorem dX8_check_37 : decode cX8_check 37 = .ok (.bipush 113, 2) := by decide +kernel
theorem dX8_check_39 : decode cX8_check 39 = .ok (.iload_n 2, 1) := by decide +kernel
theorem dX8_check_40 : decode cX8_check 40 = .ok (.iadd, 1) := by decide +kernel
theorem dX8_check_41 : decode cX8_check 41 = .ok (.iaload, 1) := by decide +kernel
theorem dX8_check_42 : decode cX8_check 42 = .ok (.aload_n 0, 1) := by decide +kernel
theorem dX8_check_43 : decode cX8_check 43 = .ok (.getfield 9, 3) := by decide +kernel
theorem dX8_check_46 : decode cX8_check 46 = .ok (.bipush 8, 2) := by decide +kernel
theorem dX8_check_48 : decode cX8_check 48 = .ok (.iload_n 2, 1) := by decide +kernel
theorem dX8_check_49 : decode cX8_check 49 = .ok (.iadd, 1) := by decide +kernel
theorem dX8_check_50 : decode cX8_check 50 = .ok (.iaload, 1) := by decide +kernel
theorem dX8_check_51 : decode cX8_check 51 = .ok (.if_icmp .eq 7, 3) := by decide +kernel
theorem dX8_check_54 : decode cX8_check 54 = .ok (.iconst 1, 1) := by decide +kernel
theorem dX8_check_55 : decode cX8_check 55 = .ok (.iload_n 2, 1) := by decide +kernel
theorem dX8_check_56 : decode cX8_check 56 = .ok (.iadd, 1) := by decide +kernel
theorem dX8_check_57 : decode cX8_check 57 = .ok (.ireturn, 1) := by decide +kernel
theorem dX8_check_58 : decode cX8_check 58 = .ok (.iinc 2 1, 3) := by decide +kernel
theorem dX8_check_61 : decode cX8_check 61 = .ok (.goto (-43), 3) := by decide +kernel
theorem dX8_check_64 : decode cX8_check 64 = .ok (.iconst 0, 1) := by decide +kernel
theorem dX8_check_65 : decode cX8_check 65 = .ok (.ireturn, 1) := by decide +kernel
theorem dX8_count_0 : decode cX8_count 0 = .ok (.iload_n 1, 1) := by decide +kernel
theorem dX8_count_1 : decode cX8_count 1 = .ok (.tableswitch 114 0 8 #[51, 58, 65, 72, 79, 86, 93, 101, 106], 51) := by decide +kernel
theorem dX8_count_52 : decode cX8_count 52 = .ok (.aload_n 0, 1) := by decide +kernel
theorem dX8_count_53 : decode cX8_count 53 = .ok (.getfield 9, 3) := by decide +kernel
theorem dX8_count_56 : decode cX8_count 56 = .ok (.iconst 2, 1) := by decide +kernel
theorem dX8_count_57 : decode cX8_count 57 = .ok (.iaload, 1) := by decide +kernel
theorem dX8_count_58 : decode cX8_count 58 = .ok (.ireturn, 1) := by decide +kernel
theorem dX8_count_59 : decode cX8_count 59 = .ok (.aload_n 0, 1) := by decide +kernel
theorem dX8_count_60 : decode cX8_count 60 = .ok (.getfield 9, 3) := by decide +kernel
theorem dX8_count_63 : decode cX8_count 63 = .ok (.iconst 3, 1) := by decide +kernel
theorem dX8_count_64 : decode cX8_count 64 = .ok (.iaload, 1) := by decide +kernel
theorem dX8_count_65 : decode cX8_count 65 = .ok (.ireturn, 1) := by decide +kernel
theorem dX8_count_66 : decode cX8_count 66 = .ok (.aload_n 0, 1) := by decide +kernel
theorem dX8_count_67 : decode cX8_count 67 = .ok (.getfield 9, 3) := by decide +kernel
theorem dX8_count_70 : decode cX8_count 70 = .ok (.iconst 0, 1) := by decide +kernel
theorem dX8_count_71 : decode cX8_count 71 = .ok (.iaload, 1) := by decide +kernel
theorem dX8_count_72 : decode cX8_count 72 = .ok (.ireturn, 1) := by decide +kernel
theorem dX8_count_73 : decode cX8_count 73 = .ok (.aload_n 0, 1) := by decide +kernel
theorem dX8_count_74 : decode cX8_count 74 = .ok (.getfield 9, 3) := by decide +kernel
theorem dX8_count_77 : decode cX8_count 77 = .ok (.iconst 1, 1) := by decide +kernel
theorem dX8_count_78 : decode cX8_count 78 = .ok (.iaload, 1) := by decide +kernel
theorem dX8_count_79 : decode cX8_count 79 = .ok (.ireturn, 1) := by decide +kernel
theorem dX8_count_80 : decode cX8_count 80 = .ok (.aload_n 0, 1) := by decide +kernel
theorem dX8_count_81 : decode cX8_count 81 = .ok (.getfield 9, 3) := by decide +kernel
theorem dX8_count_84 : decode cX8_count 84 = .ok (.iconst 4, 1) := by decide +kernel
theorem dX8_count_85 : decode cX8_count 85 = .ok (.iaload, 1) := by decide +kernel
theorem dX8_count_86 : decode cX8_count 86 = .ok (.ireturn, 1) := by decide +kernel
theorem dX8_count_87 : decode cX8_count 87 = .ok (.aload_n 0, 1) := by decide +kernel
theorem dX8_count_88 : decode cX8_count 88 = .ok (.getfield 9, 3) := by decide +kernel
theorem dX8_count_91 : decode cX8_count 91 = .ok (.iconst 5, 1) := by decide +kernel
theorem dX8_count_92 : decode cX8_count 92 = .ok (.iaload, 1) := by decide +kernel
theorem dX8_count_93 : decode cX8_count 93 = .ok (.ireturn, 1) := by decide +kernel
theorem dX8_count_94 : decode cX8_count 94 = .ok (.aload_n 0, 1) := by decide +kernel
theorem dX8_count_95 : decode cX8_count 95 = .ok (.getfield 9, 3) := by decide +kernel
theorem dX8_count_98 : decode cX8_count 98 = .ok (.bipush 6, 2) := by decide +kernel
theorem dX8_count_100 : decode cX8_count 100 = .ok (.iaload, 1) := by decide +kernel
theorem dX8_count_101 : decode cX8_count 101 = .ok (.ireturn, 1) := by decide +kernel
theorem dX8_count_102 : decode cX8_count 102 = .ok (.aload_n 0, 1) := by decide +kernel
theorem dX8_count_103 : decode cX8_count 103 = .ok (.getfield 229, 3) := by decide +kernel
theorem dX8_count_106 : decode cX8_count 106 = .ok (.ireturn, 1) := by decide +kernel
theorem dX8_count_107 : decode cX8_count 107 = .ok (.aload_n 0, 1) := by decide +kernel
theorem dX8_count_108 : decode cX8_count 108 = .ok (.getfield 9, 3) := by decide +kernel
theorem dX8_count_111 : decode cX8_count 111 = .ok (.bipush 7, 2) := by decide +kernel
theorem dX8_count_113 : decode cX8_count 113 = .ok (.iaload, 1) := by decide +kernel
theorem dX8_count_114 : decode cX8_count 114 = .ok (.ireturn, 1) := by decide +kernel
theorem dX8_count_115 : decode cX8_count 115 = .ok (.aload_n 0, 1) := by decide +kernel
theorem dX8_count_116 : decode cX8_count 116 = .ok (.ldc 77, 2) := by decide +kernel
theorem dX8_count_118 : decode cX8_count 118 = .ok (.invokevirtual 78, 3) := by decide +kernel
theorem dX8_count_121 : decode cX8_count 121 = .ok (.ireturn, 1) := by decide +kernel
theorem dX8_told_0 : decode cX8_told 0 = .ok (.iload_n 1, 1) := by decide +kernel
theorem dX8_told_1 : decode cX8_told 1 = .ok (.iconst 1, 1) := by decide +kernel
theorem dX8_told_2 : decode cX8_told 2 = .ok (.bipush 6, 2) := by decide +kernel
theorem dX8_told_4 : decode cX8_told 4 = .ok (.invokestatic 57, 3) := by decide +kernel
theorem dX8_told_7 : decode cX8_told 7 = .ok (.ifCond .eq 12, 3) := by decide +kernel
theorem dX8_told_10 : decode cX8_told 10 = .ok (.aload_n 0, 1) := by decide +kernel
theorem dX8_told_11 : decode cX8_told 11 = .ok (.getfield 19, 3) := by decide +kernel
theorem dX8_told_14 : decode cX8_told 14 = .ok (.iload_n 1, 1) := by decide +kernel
theorem dX8_told_15 : decode cX8_told 15 = .ok (.iaload, 1) := by decide +kernel
theorem dX8_told_16 : decode cX8_told 16 = .ok (.goto 9, 3) := by decide +kernel
theorem dX8_told_19 : decode cX8_told 19 = .ok (.aload_n 0, 1) := by decide +kernel
theorem dX8_told_20 : decode cX8_told 20 = .ok (.ldc 77, 2) := by decide +kernel
theorem dX8_told_22 : decode cX8_told 22 = .ok (.invokevirtual 78, 3) := by decide +kernel
theorem dX8_told_25 : decode cX8_told 25 = .ok (.ireturn, 1) := by decide +kernel
end
section
theorem dL_law_0 : decode cL_law 0 = .ok (.new 7, 3) := by decide +kernel
theorem dL_law_3 : decode cL_law 3 = .ok (.dup, 1) := by decide +kernel
theorem dL_law_4 : decode cL_law 4 = .ok (.invokespecial 9, 3) := by decide +kernel
theorem dL_law_7 : decode cL_law 7 = .ok (.astore_n 1, 1) := by decide +kernel
theorem dL_law_8 : decode cL_law 8 = .ok (.new 10, 3) := by decide +kernel
theorem dL_law_11 : decode cL_law 11 = .ok (.dup, 1) := by decide +kernel
theorem dL_law_12 : decode cL_law 12 = .ok (.invokespecial 12, 3) := by decide +kernel
theorem dL_law_15 : decode cL_law 15 = .ok (.astore_n 2, 1) := by decide +kernel
theorem dL_law_16 : decode cL_law 16 = .ok (.iconst 0, 1) := by decide +kernel
theorem dL_law_17 : decode cL_law 17 = .ok (.istore_n 3, 1) := by decide +kernel
theorem dL_law_18 : decode cL_law 18 = .ok (.iload_n 3, 1) := by decide +kernel
theorem dL_law_19 : decode cL_law 19 = .ok (.aload_n 0, 1) := by decide +kernel
theorem dL_law_20 : decode cL_law 20 = .ok (.arraylength, 1) := by decide +kernel
theorem dL_law_21 : decode cL_law 21 = .ok (.bipush 6, 2) := by decide +kernel
theorem dL_law_23 : decode cL_law 23 = .ok (.isub, 1) := by decide +kernel
theorem dL_law_24 : decode cL_law 24 = .ok (.if_icmp .gt 1326, 3) := by decide +kernel
theorem dL_law_27 : decode cL_law 27 = .ok (.aload_n 0, 1) := by decide +kernel
theorem dL_law_28 : decode cL_law 28 = .ok (.iload_n 3, 1) := by decide +kernel
theorem dL_law_29 : decode cL_law 29 = .ok (.iaload, 1) := by decide +kernel
theorem dL_law_30 : decode cL_law 30 = .ok (.bipush 63, 2) := by decide +kernel
theorem dL_law_32 : decode cL_law 32 = .ok (.iand, 1) := by decide +kernel
theorem dL_law_33 : decode cL_law 33 = .ok (.tableswitch 1311 0 37 #[167, 210, 243, 276, 309, 342, 365, 388, 411, 434, 497, 520, 543, 596, 629, 662, 695, 718, 741, 764, 797, 810, 843, 886, 919, 942, 985, 1008, 1051, 1094, 1157, 1180, 1203, 1216, 1229, 1252, 1265, 1288], 167) := by decide +kernel
theorem dL_law_200 : decode cL_law 200 = .ok (.aload_n 1, 1) := by decide +kernel
theorem dL_law_201 : decode cL_law 201 = .ok (.aload_n 0, 1) := by decide +kernel
theorem dL_law_202 : decode cL_law 202 = .ok (.iload_n 3, 1) := by decide +kernel
theorem dL_law_203 : decode cL_law 203 = .ok (.iconst 1, 1) := by decide +kernel
theorem dL_law_204 : decode cL_law 204 = .ok (.iadd, 1) := by decide +kernel
theorem dL_law_205 : decode cL_law 205 = .ok (.iaload, 1) := by decide +kernel
theorem dL_law_206 : decode cL_law 206 = .ok (.aload_n 0, 1) := by decide +kernel
theorem dL_law_207 : decode cL_law 207 = .ok (.iload_n 3, 1) := by decide +kernel
theorem dL_law_208 : decode cL_law 208 = .ok (.iconst 2, 1) := by decide +kernel
theorem dL_law_209 : decode cL_law 209 = .ok (.iadd, 1) := by decide +kernel
theorem dL_law_210 : decode cL_law 210 = .ok (.iaload, 1) := by decide +kernel
theorem dL_law_211 : decode cL_law 211 = .ok (.aload_n 0, 1) := by decide +kernel
theorem dL_law_212 : decode cL_law 212 = .ok (.iload_n 3, 1) := by decide +kernel
theorem dL_law_213 : decode cL_law 213 = .ok (.iconst 3, 1) := by decide +kernel
theorem dL_law_214 : decode cL_law 214 = .ok (.iadd, 1) := by decide +kernel
theorem dL_law_215 : decode cL_law 215 = .ok (.iaload, 1) := by decide +kernel
theorem dL_law_216 : decode cL_law 216 = .ok (.invokevirtual 13, 3) := by decide +kernel
theorem dL_law_219 : decode cL_law 219 = .ok (.aload_n 2, 1) := by decide +kernel
theorem dL_law_220 : decode cL_law 220 = .ok (.aload_n 0, 1) := by decide +kernel
theorem dL_law_221 : decode cL_law 221 = .ok (.iload_n 3, 1) := by decide +kernel
theorem dL_law_222 : decode cL_law 222 = .ok (.iconst 1, 1) := by decide +kernel
theorem dL_law_223 : decode cL_law 223 = .ok (.iadd, 1) := by decide +kernel
theorem dL_law_224 : decode cL_law 224 = .ok (.iaload, 1) := by decide +kernel
theorem dL_law_225 : decode cL_law 225 = .ok (.aload_n 0, 1) := by decide +kernel
theorem dL_law_226 : decode cL_law 226 = .ok (.iload_n 3, 1) := by decide +kernel
theorem dL_law_227 : decode cL_law 227 = .ok (.iconst 2, 1) := by decide +kernel
theorem dL_law_228 : decode cL_law 228 = .ok (.iadd, 1) := by decide +kernel
theorem dL_law_229 : decode cL_law 229 = .ok (.iaload, 1) := by decide +kernel
theorem dL_law_230 : decode cL_law 230 = .ok (.aload_n 0, 1) := by decide +kernel
theorem dL_law_231 : decode cL_law 231 = .ok (.iload_n 3, 1) := by decide +kernel
theorem dL_law_232 : decode cL_law 232 = .ok (.iconst 3, 1) := by decide +kernel
theorem dL_law_233 : decode cL_law 233 = .ok (.iadd, 1) := by decide +kernel
theorem dL_law_234 : decode cL_law 234 = .ok (.iaload, 1) := by decide +kernel
theorem dL_law_235 : decode cL_law 235 = .ok (.invokevirtual 17, 3) := by decide +kernel
theorem dL_law_238 : decode cL_law 238 = .ok (.if_icmp .eq 1106, 3) := by decide +kernel
theorem dL_law_241 : decode cL_law 241 = .ok (.iconst 0, 1) := by decide +kernel
theorem dL_law_242 : decode cL_law 242 = .ok (.ireturn, 1) := by decide +kernel
theorem dL_law_243 : decode cL_law 243 = .ok (.aload_n 1, 1) := by decide +kernel
theorem dL_law_244 : decode cL_law 244 = .ok (.aload_n 0, 1) := by decide +kernel
theorem dL_law_245 : decode cL_law 245 = .ok (.iload_n 3, 1) := by decide +kernel
theorem dL_law_246 : decode cL_law 246 = .ok (.iconst 1, 1) := by decide +kernel
theorem dL_law_247 : decode cL_law 247 = .ok (.iadd, 1) := by decide +kernel
theorem dL_law_248 : decode cL_law 248 = .ok (.iaload, 1) := by decide +kernel
theorem dL_law_249 : decode cL_law 249 = .ok (.aload_n 0, 1) := by decide +kernel
theorem dL_law_250 : decode cL_law 250 = .ok (.iload_n 3, 1) := by decide +kernel
theorem dL_law_251 : decode cL_law 251 = .ok (.iconst 2, 1) := by decide +kernel
theorem dL_law_252 : decode cL_law 252 = .ok (.iadd, 1) := by decide +kernel
theorem dL_law_253 : decode cL_law 253 = .ok (.iaload, 1) := by decide +kernel
theorem dL_law_254 : decode cL_law 254 = .ok (.invokevirtual 18, 3) := by decide +kernel
theorem dL_law_257 : decode cL_law 257 = .ok (.aload_n 2, 1) := by decide +kernel
theorem dL_law_258 : decode cL_law 258 = .ok (.aload_n 0, 1) := by decide +kernel
theorem dL_law_259 : decode cL_law 259 = .ok (.iload_n 3, 1) := by decide +kernel
theorem dL_law_260 : decode cL_law 260 = .ok (.iconst 1, 1) := by decide +kernel
theorem dL_law_261 : decode cL_law 261 = .ok (.iadd, 1) := by decide +kernel
theorem dL_law_262 : decode cL_law 262 = .ok (.iaload, 1) := by decide +kernel
theorem dL_law_263 : decode cL_law 263 = .ok (.aload_n 0, 1) := by decide +kernel
theorem dL_law_264 : decode cL_law 264 = .ok (.iload_n 3, 1) := by decide +kernel
theorem dL_law_265 : decode cL_law 265 = .ok (.iconst 2, 1) := by decide +kernel
theorem dL_law_266 : decode cL_law 266 = .ok (.iadd, 1) := by decide +kernel
theorem dL_law_267 : decode cL_law 267 = .ok (.iaload, 1) := by decide +kernel
theorem dL_law_268 : decode cL_law 268 = .ok (.invokevirtual 22, 3) := by decide +kernel
theorem dL_law_271 : decode cL_law 271 = .ok (.if_icmp .eq 1073, 3) := by decide +kernel
theorem dL_law_274 : decode cL_law 274 = .ok (.iconst 0, 1) := by decide +kernel
theorem dL_law_275 : decode cL_law 275 = .ok (.ireturn, 1) := by decide +kernel
theorem dL_law_276 : decode cL_law 276 = .ok (.aload_n 1, 1) := by decide +kernel
theorem dL_law_277 : decode cL_law 277 = .ok (.aload_n 0, 1) := by decide +kernel
theorem dL_law_278 : decode cL_law 278 = .ok (.iload_n 3, 1) := by decide +kernel
theorem dL_law_279 : decode cL_law 279 = .ok (.iconst 1, 1) := by decide +kernel
theorem dL_law_280 : decode cL_law 280 = .ok (.iadd, 1) := by decide +kernel
theorem dL_law_281 : decode cL_law 281 = .ok (.iaload, 1) := by decide +kernel
theorem dL_law_282 : decode cL_law 282 = .ok (.aload_n 0, 1) := by decide +kernel
theorem dL_law_283 : decode cL_law 283 = .ok (.iload_n 3, 1) := by decide +kernel
theorem dL_law_284 : decode cL_law 284 = .ok (.iconst 2, 1) := by decide +kernel
theorem dL_law_285 : decode cL_law 285 = .ok (.iadd, 1) := by decide +kernel
theorem dL_law_286 : decode cL_law 286 = .ok (.iaload, 1) := by decide +kernel
theorem dL_law_287 : decode cL_law 287 = .ok (.invokevirtual 23, 3) := by decide +kernel
theorem dL_law_290 : decode cL_law 290 = .ok (.aload_n 2, 1) := by decide +kernel
theorem dL_law_291 : decode cL_law 291 = .ok (.aload_n 0, 1) := by decide +kernel
theorem dL_law_292 : decode cL_law 292 = .ok (.iload_n 3, 1) := by decide +kernel
theorem dL_law_293 : decode cL_law 293 = .ok (.iconst 1, 1) := by decide +kernel
theorem dL_law_294 : decode cL_law 294 = .ok (.iadd, 1) := by decide +kernel
theorem dL_law_295 : decode cL_law 295 = .ok (.iaload, 1) := by decide +kernel
theorem dL_law_296 : decode cL_law 296 = .ok (.aload_n 0, 1) := by decide +kernel
theorem dL_law_297 : decode cL_law 297 = .ok (.iload_n 3, 1) := by decide +kernel
theorem dL_law_298 : decode cL_law 298 = .ok (.iconst 2, 1) := by decide +kernel
theorem dL_law_299 : decode cL_law 299 = .ok (.iadd, 1) := by decide +kernel
theorem dL_law_300 : decode cL_law 300 = .ok (.iaload, 1) := by decide +kernel
theorem dL_law_301 : decode cL_law 301 = .ok (.invokevirtual 26, 3) := by decide +kernel
theorem dL_law_304 : decode cL_law 304 = .ok (.if_icmp .eq 1040, 3) := by decide +kernel
theorem dL_law_307 : decode cL_law 307 = .ok (.iconst 0, 1) := by decide +kernel
theorem dL_law_308 : decode cL_law 308 = .ok (.ireturn, 1) := by decide +kernel
theorem dL_law_309 : decode cL_law 309 = .ok (.aload_n 1, 1) := by decide +kernel
theorem dL_law_310 : decode cL_law 310 = .ok (.aload_n 0, 1) := by decide +kernel
theorem dL_law_311 : decode cL_law 311 = .ok (.iload_n 3, 1) := by decide +kernel
theorem dL_law_312 : decode cL_law 312 = .ok (.iconst 1, 1) := by decide +kernel
theorem dL_law_313 : decode cL_law 313 = .ok (.iadd, 1) := by decide +kernel
theorem dL_law_314 : decode cL_law 314 = .ok (.iaload, 1) := by decide +kernel
theorem dL_law_315 : decode cL_law 315 = .ok (.aload_n 0, 1) := by decide +kernel
theorem dL_law_316 : decode cL_law 316 = .ok (.iload_n 3, 1) := by decide +kernel
theorem dL_law_317 : decode cL_law 317 = .ok (.iconst 2, 1) := by decide +kernel
theorem dL_law_318 : decode cL_law 318 = .ok (.iadd, 1) := by decide +kernel
theorem dL_law_319 : decode cL_law 319 = .ok (.iaload, 1) := by decide +kernel
theorem dL_law_320 : decode cL_law 320 = .ok (.invokevirtual 27, 3) := by decide +kernel
theorem dL_law_323 : decode cL_law 323 = .ok (.aload_n 2, 1) := by decide +kernel
theorem dL_law_324 : decode cL_law 324 = .ok (.aload_n 0, 1) := by decide +kernel
theorem dL_law_325 : decode cL_law 325 = .ok (.iload_n 3, 1) := by decide +kernel
theorem dL_law_326 : decode cL_law 326 = .ok (.iconst 1, 1) := by decide +kernel
theorem dL_law_327 : decode cL_law 327 = .ok (.iadd, 1) := by decide +kernel
theorem dL_law_328 : decode cL_law 328 = .ok (.iaload, 1) := by decide +kernel
theorem dL_law_329 : decode cL_law 329 = .ok (.aload_n 0, 1) := by decide +kernel
theorem dL_law_330 : decode cL_law 330 = .ok (.iload_n 3, 1) := by decide +kernel
theorem dL_law_331 : decode cL_law 331 = .ok (.iconst 2, 1) := by decide +kernel
theorem dL_law_332 : decode cL_law 332 = .ok (.iadd, 1) := by decide +kernel
theorem dL_law_333 : decode cL_law 333 = .ok (.iaload, 1) := by decide +kernel
theorem dL_law_334 : decode cL_law 334 = .ok (.invokevirtual 30, 3) := by decide +kernel
theorem dL_law_337 : decode cL_law 337 = .ok (.if_icmp .eq 1007, 3) := by decide +kernel
theorem dL_law_340 : decode cL_law 340 = .ok (.iconst 0, 1) := by decide +kernel
theorem dL_law_341 : decode cL_law 341 = .ok (.ireturn, 1) := by decide +kernel
theorem dL_law_342 : decode cL_law 342 = .ok (.aload_n 1, 1) := by decide +kernel
theorem dL_law_343 : decode cL_law 343 = .ok (.aload_n 0, 1) := by decide +kernel
theorem dL_law_344 : decode cL_law 344 = .ok (.iload_n 3, 1) := by decide +kernel
theorem dL_law_345 : decode cL_law 345 = .ok (.iconst 1, 1) := by decide +kernel
theorem dL_law_346 : decode cL_law 346 = .ok (.iadd, 1) := by decide +kernel
theorem dL_law_347 : decode cL_law 347 = .ok (.iaload, 1) := by decide +kernel
theorem dL_law_348 : decode cL_law 348 = .ok (.aload_n 0, 1) := by decide +kernel
theorem dL_law_349 : decode cL_law 349 = .ok (.iload_n 3, 1) := by decide +kernel
theorem dL_law_350 : decode cL_law 350 = .ok (.iconst 2, 1) := by decide +kernel
theorem dL_law_351 : decode cL_law 351 = .ok (.iadd, 1) := by decide +kernel
theorem dL_law_352 : decode cL_law 352 = .ok (.iaload, 1) := by decide +kernel
theorem dL_law_353 : decode cL_law 353 = .ok (.invokevirtual 31, 3) := by decide +kernel
theorem dL_law_356 : decode cL_law 356 = .ok (.aload_n 2, 1) := by decide +kernel
theorem dL_law_357 : decode cL_law 357 = .ok (.aload_n 0, 1) := by decide +kernel
theorem dL_law_358 : decode cL_law 358 = .ok (.iload_n 3, 1) := by decide +kernel
theorem dL_law_359 : decode cL_law 359 = .ok (.iconst 1, 1) := by decide +kernel
theorem dL_law_360 : decode cL_law 360 = .ok (.iadd, 1) := by decide +kernel
theorem dL_law_361 : decode cL_law 361 = .ok (.iaload, 1) := by decide +kernel
theorem dL_law_362 : decode cL_law 362 = .ok (.aload_n 0, 1) := by decide +kernel
theorem dL_law_363 : decode cL_law 363 = .ok (.iload_n 3, 1) := by decide +kernel
theorem dL_law_364 : decode cL_law 364 = .ok (.iconst 2, 1) := by decide +kernel
theorem dL_law_365 : decode cL_law 365 = .ok (.iadd, 1) := by decide +kernel
theorem dL_law_366 : decode cL_law 366 = .ok (.iaload, 1) := by decide +kernel
theorem dL_law_367 : decode cL_law 367 = .ok (.invokevirtual 34, 3) := by decide +kernel
theorem dL_law_370 : decode cL_law 370 = .ok (.if_icmp .eq 974, 3) := by decide +kernel
theorem dL_law_373 : decode cL_law 373 = .ok (.iconst 0, 1) := by decide +kernel
theorem dL_law_374 : decode cL_law 374 = .ok (.ireturn, 1) := by decide +kernel
theorem dL_law_375 : decode cL_law 375 = .ok (.aload_n 1, 1) := by decide +kernel
theorem dL_law_376 : decode cL_law 376 = .ok (.aload_n 0, 1) := by decide +kernel
theorem dL_law_377 : decode cL_law 377 = .ok (.iload_n 3, 1) := by decide +kernel
theorem dL_law_378 : decode cL_law 378 = .ok (.iconst 1, 1) := by decide +kernel
theorem dL_law_379 : decode cL_law 379 = .ok (.iadd, 1) := by decide +kernel
theorem dL_law_380 : decode cL_law 380 = .ok (.iaload, 1) := by decide +kernel
theorem dL_law_381 : decode cL_law 381 = .ok (.invokevirtual 35, 3) := by decide +kernel
theorem dL_law_384 : decode cL_law 384 = .ok (.aload_n 2, 1) := by decide +kernel
theorem dL_law_385 : decode cL_law 385 = .ok (.aload_n 0, 1) := by decide +kernel
theorem dL_law_386 : decode cL_law 386 = .ok (.iload_n 3, 1) := by decide +kernel
theorem dL_law_387 : decode cL_law 387 = .ok (.iconst 1, 1) := by decide +kernel
theorem dL_law_388 : decode cL_law 388 = .ok (.iadd, 1) := by decide +kernel
theorem dL_law_389 : decode cL_law 389 = .ok (.iaload, 1) := by decide +kernel
theorem dL_law_390 : decode cL_law 390 = .ok (.invokevirtual 39, 3) := by decide +kernel
theorem dL_law_393 : decode cL_law 393 = .ok (.if_icmp .eq 951, 3) := by decide +kernel
theorem dL_law_396 : decode cL_law 396 = .ok (.iconst 0, 1) := by decide +kernel
theorem dL_law_397 : decode cL_law 397 = .ok (.ireturn, 1) := by decide +kernel
theorem dL_law_398 : decode cL_law 398 = .ok (.aload_n 1, 1) := by decide +kernel
theorem dL_law_399 : decode cL_law 399 = .ok (.aload_n 0, 1) := by decide +kernel
theorem dL_law_400 : decode cL_law 400 = .ok (.iload_n 3, 1) := by decide +kernel
theorem dL_law_401 : decode cL_law 401 = .ok (.iconst 1, 1) := by decide +kernel
theorem dL_law_402 : decode cL_law 402 = .ok (.iadd, 1) := by decide +kernel
theorem dL_law_403 : decode cL_law 403 = .ok (.iaload, 1) := by decide +kernel
theorem dL_law_404 : decode cL_law 404 = .ok (.invokevirtual 40, 3) := by decide +kernel
theorem dL_law_407 : decode cL_law 407 = .ok (.aload_n 2, 1) := by decide +kernel
theorem dL_law_408 : decode cL_law 408 = .ok (.aload_n 0, 1) := by decide +kernel
theorem dL_law_409 : decode cL_law 409 = .ok (.iload_n 3, 1) := by decide +kernel
theorem dL_law_410 : decode cL_law 410 = .ok (.iconst 1, 1) := by decide +kernel
theorem dL_law_411 : decode cL_law 411 = .ok (.iadd, 1) := by decide +kernel
theorem dL_law_412 : decode cL_law 412 = .ok (.iaload, 1) := by decide +kernel
theorem dL_law_413 : decode cL_law 413 = .ok (.invokevirtual 43, 3) := by decide +kernel
theorem dL_law_416 : decode cL_law 416 = .ok (.if_icmp .eq 928, 3) := by decide +kernel
theorem dL_law_419 : decode cL_law 419 = .ok (.iconst 0, 1) := by decide +kernel
theorem dL_law_420 : decode cL_law 420 = .ok (.ireturn, 1) := by decide +kernel
theorem dL_law_421 : decode cL_law 421 = .ok (.aload_n 1, 1) := by decide +kernel
theorem dL_law_422 : decode cL_law 422 = .ok (.aload_n 0, 1) := by decide +kernel
theorem dL_law_423 : decode cL_law 423 = .ok (.iload_n 3, 1) := by decide +kernel
theorem dL_law_424 : decode cL_law 424 = .ok (.iconst 1, 1) := by decide +kernel
theorem dL_law_425 : decode cL_law 425 = .ok (.iadd, 1) := by decide +kernel
theorem dL_law_426 : decode cL_law 426 = .ok (.iaload, 1) := by decide +kernel
theorem dL_law_427 : decode cL_law 427 = .ok (.invokevirtual 44, 3) := by decide +kernel
theorem dL_law_430 : decode cL_law 430 = .ok (.aload_n 2, 1) := by decide +kernel
theorem dL_law_431 : decode cL_law 431 = .ok (.aload_n 0, 1) := by decide +kernel
theorem dL_law_432 : decode cL_law 432 = .ok (.iload_n 3, 1) := by decide +kernel
theorem dL_law_433 : decode cL_law 433 = .ok (.iconst 1, 1) := by decide +kernel
theorem dL_law_434 : decode cL_law 434 = .ok (.iadd, 1) := by decide +kernel
theorem dL_law_435 : decode cL_law 435 = .ok (.iaload, 1) := by decide +kernel
theorem dL_law_436 : decode cL_law 436 = .ok (.invokevirtual 47, 3) := by decide +kernel
theorem dL_law_439 : decode cL_law 439 = .ok (.if_icmp .eq 905, 3) := by decide +kernel
theorem dL_law_442 : decode cL_law 442 = .ok (.iconst 0, 1) := by decide +kernel
theorem dL_law_443 : decode cL_law 443 = .ok (.ireturn, 1) := by decide +kernel
theorem dL_law_444 : decode cL_law 444 = .ok (.aload_n 1, 1) := by decide +kernel
theorem dL_law_445 : decode cL_law 445 = .ok (.aload_n 0, 1) := by decide +kernel
theorem dL_law_446 : decode cL_law 446 = .ok (.iload_n 3, 1) := by decide +kernel
theorem dL_law_447 : decode cL_law 447 = .ok (.iconst 1, 1) := by decide +kernel
theorem dL_law_448 : decode cL_law 448 = .ok (.iadd, 1) := by decide +kernel
theorem dL_law_449 : decode cL_law 449 = .ok (.iaload, 1) := by decide +kernel
theorem dL_law_450 : decode cL_law 450 = .ok (.invokevirtual 48, 3) := by decide +kernel
theorem dL_law_453 : decode cL_law 453 = .ok (.aload_n 2, 1) := by decide +kernel
theorem dL_law_454 : decode cL_law 454 = .ok (.aload_n 0, 1) := by decide +kernel
theorem dL_law_455 : decode cL_law 455 = .ok (.iload_n 3, 1) := by decide +kernel
theorem dL_law_456 : decode cL_law 456 = .ok (.iconst 1, 1) := by decide +kernel
theorem dL_law_457 : decode cL_law 457 = .ok (.iadd, 1) := by decide +kernel
theorem dL_law_458 : decode cL_law 458 = .ok (.iaload, 1) := by decide +kernel
theorem dL_law_459 : decode cL_law 459 = .ok (.invokevirtual 51, 3) := by decide +kernel
theorem dL_law_462 : decode cL_law 462 = .ok (.if_icmp .eq 882, 3) := by decide +kernel
theorem dL_law_465 : decode cL_law 465 = .ok (.iconst 0, 1) := by decide +kernel
theorem dL_law_466 : decode cL_law 466 = .ok (.ireturn, 1) := by decide +kernel
theorem dL_law_467 : decode cL_law 467 = .ok (.aload_n 1, 1) := by decide +kernel
theorem dL_law_468 : decode cL_law 468 = .ok (.aload_n 0, 1) := by decide +kernel
theorem dL_law_469 : decode cL_law 469 = .ok (.iload_n 3, 1) := by decide +kernel
theorem dL_law_470 : decode cL_law 470 = .ok (.iconst 1, 1) := by decide +kernel
theorem dL_law_471 : decode cL_law 471 = .ok (.iadd, 1) := by decide +kernel
theorem dL_law_472 : decode cL_law 472 = .ok (.iaload, 1) := by decide +kernel
theorem dL_law_473 : decode cL_law 473 = .ok (.i2l, 1) := by decide +kernel
theorem dL_law_474 : decode cL_law 474 = .ok (.bipush 32, 2) := by decide +kernel
theorem dL_law_476 : decode cL_law 476 = .ok (.lshl, 1) := by decide +kernel
theorem dL_law_477 : decode cL_law 477 = .ok (.aload_n 0, 1) := by decide +kernel
theorem dL_law_478 : decode cL_law 478 = .ok (.iload_n 3, 1) := by decide +kernel
theorem dL_law_479 : decode cL_law 479 = .ok (.iconst 2, 1) := by decide +kernel
theorem dL_law_480 : decode cL_law 480 = .ok (.iadd, 1) := by decide +kernel
theorem dL_law_481 : decode cL_law 481 = .ok (.iaload, 1) := by decide +kernel
theorem dL_law_482 : decode cL_law 482 = .ok (.i2l, 1) := by decide +kernel
theorem dL_law_483 : decode cL_law 483 = .ok (.ldc2_w 52, 3) := by decide +kernel
theorem dL_law_486 : decode cL_law 486 = .ok (.land, 1) := by decide +kernel
theorem dL_law_487 : decode cL_law 487 = .ok (.lor, 1) := by decide +kernel
theorem dL_law_488 : decode cL_law 488 = .ok (.aload_n 0, 1) := by decide +kernel
theorem dL_law_489 : decode cL_law 489 = .ok (.iload_n 3, 1) := by decide +kernel
theorem dL_law_490 : decode cL_law 490 = .ok (.iconst 3, 1) := by decide +kernel
theorem dL_law_491 : decode cL_law 491 = .ok (.iadd, 1) := by decide +kernel
theorem dL_law_492 : decode cL_law 492 = .ok (.iaload, 1) := by decide +kernel
theorem dL_law_493 : decode cL_law 493 = .ok (.invokevirtual 54, 3) := by decide +kernel
theorem dL_law_496 : decode cL_law 496 = .ok (.aload_n 2, 1) := by decide +kernel
theorem dL_law_497 : decode cL_law 497 = .ok (.aload_n 0, 1) := by decide +kernel
theorem dL_law_498 : decode cL_law 498 = .ok (.iload_n 3, 1) := by decide +kernel
theorem dL_law_499 : decode cL_law 499 = .ok (.iconst 1, 1) := by decide +kernel
theorem dL_law_500 : decode cL_law 500 = .ok (.iadd, 1) := by decide +kernel
theorem dL_law_501 : decode cL_law 501 = .ok (.iaload, 1) := by decide +kernel
theorem dL_law_502 : decode cL_law 502 = .ok (.i2l, 1) := by decide +kernel
theorem dL_law_503 : decode cL_law 503 = .ok (.bipush 32, 2) := by decide +kernel
theorem dL_law_505 : decode cL_law 505 = .ok (.lshl, 1) := by decide +kernel
theorem dL_law_506 : decode cL_law 506 = .ok (.aload_n 0, 1) := by decide +kernel
theorem dL_law_507 : decode cL_law 507 = .ok (.iload_n 3, 1) := by decide +kernel
theorem dL_law_508 : decode cL_law 508 = .ok (.iconst 2, 1) := by decide +kernel
theorem dL_law_509 : decode cL_law 509 = .ok (.iadd, 1) := by decide +kernel
theorem dL_law_510 : decode cL_law 510 = .ok (.iaload, 1) := by decide +kernel
theorem dL_law_511 : decode cL_law 511 = .ok (.i2l, 1) := by decide +kernel
theorem dL_law_512 : decode cL_law 512 = .ok (.ldc2_w 52, 3) := by decide +kernel
theorem dL_law_515 : decode cL_law 515 = .ok (.land, 1) := by decide +kernel
theorem dL_law_516 : decode cL_law 516 = .ok (.lor, 1) := by decide +kernel
theorem dL_law_517 : decode cL_law 517 = .ok (.aload_n 0, 1) := by decide +kernel
theorem dL_law_518 : decode cL_law 518 = .ok (.iload_n 3, 1) := by decide +kernel
theorem dL_law_519 : decode cL_law 519 = .ok (.iconst 3, 1) := by decide +kernel
theorem dL_law_520 : decode cL_law 520 = .ok (.iadd, 1) := by decide +kernel
theorem dL_law_521 : decode cL_law 521 = .ok (.iaload, 1) := by decide +kernel
theorem dL_law_522 : decode cL_law 522 = .ok (.invokevirtual 58, 3) := by decide +kernel
theorem dL_law_525 : decode cL_law 525 = .ok (.if_icmp .eq 819, 3) := by decide +kernel
theorem dL_law_528 : decode cL_law 528 = .ok (.iconst 0, 1) := by decide +kernel
theorem dL_law_529 : decode cL_law 529 = .ok (.ireturn, 1) := by decide +kernel
theorem dL_law_530 : decode cL_law 530 = .ok (.aload_n 1, 1) := by decide +kernel
theorem dL_law_531 : decode cL_law 531 = .ok (.aload_n 0, 1) := by decide +kernel
theorem dL_law_532 : decode cL_law 532 = .ok (.iload_n 3, 1) := by decide +kernel
theorem dL_law_533 : decode cL_law 533 = .ok (.iconst 1, 1) := by decide +kernel
theorem dL_law_534 : decode cL_law 534 = .ok (.iadd, 1) := by decide +kernel
theorem dL_law_535 : decode cL_law 535 = .ok (.iaload, 1) := by decide +kernel
theorem dL_law_536 : decode cL_law 536 = .ok (.invokevirtual 59, 3) := by decide +kernel
theorem dL_law_539 : decode cL_law 539 = .ok (.aload_n 2, 1) := by decide +kernel
theorem dL_law_540 : decode cL_law 540 = .ok (.aload_n 0, 1) := by decide +kernel
theorem dL_law_541 : decode cL_law 541 = .ok (.iload_n 3, 1) := by decide +kernel
theorem dL_law_542 : decode cL_law 542 = .ok (.iconst 1, 1) := by decide +kernel
theorem dL_law_543 : decode cL_law 543 = .ok (.iadd, 1) := by decide +kernel
theorem dL_law_544 : decode cL_law 544 = .ok (.iaload, 1) := by decide +kernel
theorem dL_law_545 : decode cL_law 545 = .ok (.invokevirtual 62, 3) := by decide +kernel
theorem dL_law_548 : decode cL_law 548 = .ok (.if_icmp .eq 796, 3) := by decide +kernel
theorem dL_law_551 : decode cL_law 551 = .ok (.iconst 0, 1) := by decide +kernel
theorem dL_law_552 : decode cL_law 552 = .ok (.ireturn, 1) := by decide +kernel
theorem dL_law_553 : decode cL_law 553 = .ok (.aload_n 1, 1) := by decide +kernel
theorem dL_law_554 : decode cL_law 554 = .ok (.aload_n 0, 1) := by decide +kernel
theorem dL_law_555 : decode cL_law 555 = .ok (.iload_n 3, 1) := by decide +kernel
theorem dL_law_556 : decode cL_law 556 = .ok (.iconst 1, 1) := by decide +kernel
theorem dL_law_557 : decode cL_law 557 = .ok (.iadd, 1) := by decide +kernel
theorem dL_law_558 : decode cL_law 558 = .ok (.iaload, 1) := by decide +kernel
theorem dL_law_559 : decode cL_law 559 = .ok (.invokevirtual 63, 3) := by decide +kernel
theorem dL_law_562 : decode cL_law 562 = .ok (.aload_n 2, 1) := by decide +kernel
theorem dL_law_563 : decode cL_law 563 = .ok (.aload_n 0, 1) := by decide +kernel
theorem dL_law_564 : decode cL_law 564 = .ok (.iload_n 3, 1) := by decide +kernel
theorem dL_law_565 : decode cL_law 565 = .ok (.iconst 1, 1) := by decide +kernel
theorem dL_law_566 : decode cL_law 566 = .ok (.iadd, 1) := by decide +kernel
theorem dL_law_567 : decode cL_law 567 = .ok (.iaload, 1) := by decide +kernel
theorem dL_law_568 : decode cL_law 568 = .ok (.invokevirtual 66, 3) := by decide +kernel
theorem dL_law_571 : decode cL_law 571 = .ok (.if_icmp .eq 773, 3) := by decide +kernel
theorem dL_law_574 : decode cL_law 574 = .ok (.iconst 0, 1) := by decide +kernel
theorem dL_law_575 : decode cL_law 575 = .ok (.ireturn, 1) := by decide +kernel
theorem dL_law_576 : decode cL_law 576 = .ok (.aload_n 1, 1) := by decide +kernel
theorem dL_law_577 : decode cL_law 577 = .ok (.aload_n 0, 1) := by decide +kernel
theorem dL_law_578 : decode cL_law 578 = .ok (.iload_n 3, 1) := by decide +kernel
theorem dL_law_579 : decode cL_law 579 = .ok (.iconst 1, 1) := by decide +kernel
theorem dL_law_580 : decode cL_law 580 = .ok (.iadd, 1) := by decide +kernel
theorem dL_law_581 : decode cL_law 581 = .ok (.iaload, 1) := by decide +kernel
theorem dL_law_582 : decode cL_law 582 = .ok (.aload_n 0, 1) := by decide +kernel
theorem dL_law_583 : decode cL_law 583 = .ok (.iload_n 3, 1) := by decide +kernel
theorem dL_law_584 : decode cL_law 584 = .ok (.iconst 2, 1) := by decide +kernel
theorem dL_law_585 : decode cL_law 585 = .ok (.iadd, 1) := by decide +kernel
theorem dL_law_586 : decode cL_law 586 = .ok (.iaload, 1) := by decide +kernel
theorem dL_law_587 : decode cL_law 587 = .ok (.aload_n 0, 1) := by decide +kernel
theorem dL_law_588 : decode cL_law 588 = .ok (.iload_n 3, 1) := by decide +kernel
theorem dL_law_589 : decode cL_law 589 = .ok (.iconst 3, 1) := by decide +kernel
theorem dL_law_590 : decode cL_law 590 = .ok (.iadd, 1) := by decide +kernel
theorem dL_law_591 : decode cL_law 591 = .ok (.iaload, 1) := by decide +kernel
theorem dL_law_592 : decode cL_law 592 = .ok (.aload_n 0, 1) := by decide +kernel
theorem dL_law_593 : decode cL_law 593 = .ok (.iload_n 3, 1) := by decide +kernel
theorem dL_law_594 : decode cL_law 594 = .ok (.iconst 4, 1) := by decide +kernel
theorem dL_law_595 : decode cL_law 595 = .ok (.iadd, 1) := by decide +kernel
theorem dL_law_596 : decode cL_law 596 = .ok (.iaload, 1) := by decide +kernel
theorem dL_law_597 : decode cL_law 597 = .ok (.invokevirtual 67, 3) := by decide +kernel
theorem dL_law_600 : decode cL_law 600 = .ok (.aload_n 2, 1) := by decide +kernel
theorem dL_law_601 : decode cL_law 601 = .ok (.aload_n 0, 1) := by decide +kernel
theorem dL_law_602 : decode cL_law 602 = .ok (.iload_n 3, 1) := by decide +kernel
theorem dL_law_603 : decode cL_law 603 = .ok (.iconst 1, 1) := by decide +kernel
theorem dL_law_604 : decode cL_law 604 = .ok (.iadd, 1) := by decide +kernel
theorem dL_law_605 : decode cL_law 605 = .ok (.iaload, 1) := by decide +kernel
theorem dL_law_606 : decode cL_law 606 = .ok (.aload_n 0, 1) := by decide +kernel
theorem dL_law_607 : decode cL_law 607 = .ok (.iload_n 3, 1) := by decide +kernel
theorem dL_law_608 : decode cL_law 608 = .ok (.iconst 2, 1) := by decide +kernel
theorem dL_law_609 : decode cL_law 609 = .ok (.iadd, 1) := by decide +kernel
theorem dL_law_610 : decode cL_law 610 = .ok (.iaload, 1) := by decide +kernel
theorem dL_law_611 : decode cL_law 611 = .ok (.aload_n 0, 1) := by decide +kernel
theorem dL_law_612 : decode cL_law 612 = .ok (.iload_n 3, 1) := by decide +kernel
theorem dL_law_613 : decode cL_law 613 = .ok (.iconst 3, 1) := by decide +kernel
theorem dL_law_614 : decode cL_law 614 = .ok (.iadd, 1) := by decide +kernel
theorem dL_law_615 : decode cL_law 615 = .ok (.iaload, 1) := by decide +kernel
theorem dL_law_616 : decode cL_law 616 = .ok (.aload_n 0, 1) := by decide +kernel
theorem dL_law_617 : decode cL_law 617 = .ok (.iload_n 3, 1) := by decide +kernel
theorem dL_law_618 : decode cL_law 618 = .ok (.iconst 4, 1) := by decide +kernel
theorem dL_law_619 : decode cL_law 619 = .ok (.iadd, 1) := by decide +kernel
theorem dL_law_620 : decode cL_law 620 = .ok (.iaload, 1) := by decide +kernel
theorem dL_law_621 : decode cL_law 621 = .ok (.invokevirtual 71, 3) := by decide +kernel
theorem dL_law_624 : decode cL_law 624 = .ok (.if_icmp .eq 720, 3) := by decide +kernel
theorem dL_law_627 : decode cL_law 627 = .ok (.iconst 0, 1) := by decide +kernel
theorem dL_law_628 : decode cL_law 628 = .ok (.ireturn, 1) := by decide +kernel
theorem dL_law_629 : decode cL_law 629 = .ok (.aload_n 1, 1) := by decide +kernel
theorem dL_law_630 : decode cL_law 630 = .ok (.aload_n 0, 1) := by decide +kernel
theorem dL_law_631 : decode cL_law 631 = .ok (.iload_n 3, 1) := by decide +kernel
theorem dL_law_632 : decode cL_law 632 = .ok (.iconst 1, 1) := by decide +kernel
theorem dL_law_633 : decode cL_law 633 = .ok (.iadd, 1) := by decide +kernel
theorem dL_law_634 : decode cL_law 634 = .ok (.iaload, 1) := by decide +kernel
theorem dL_law_635 : decode cL_law 635 = .ok (.aload_n 0, 1) := by decide +kernel
theorem dL_law_636 : decode cL_law 636 = .ok (.iload_n 3, 1) := by decide +kernel
theorem dL_law_637 : decode cL_law 637 = .ok (.iconst 2, 1) := by decide +kernel
theorem dL_law_638 : decode cL_law 638 = .ok (.iadd, 1) := by decide +kernel
theorem dL_law_639 : decode cL_law 639 = .ok (.iaload, 1) := by decide +kernel
theorem dL_law_640 : decode cL_law 640 = .ok (.invokevirtual 72, 3) := by decide +kernel
theorem dL_law_643 : decode cL_law 643 = .ok (.aload_n 2, 1) := by decide +kernel
theorem dL_law_644 : decode cL_law 644 = .ok (.aload_n 0, 1) := by decide +kernel
theorem dL_law_645 : decode cL_law 645 = .ok (.iload_n 3, 1) := by decide +kernel
theorem dL_law_646 : decode cL_law 646 = .ok (.iconst 1, 1) := by decide +kernel
theorem dL_law_647 : decode cL_law 647 = .ok (.iadd, 1) := by decide +kernel
theorem dL_law_648 : decode cL_law 648 = .ok (.iaload, 1) := by decide +kernel
theorem dL_law_649 : decode cL_law 649 = .ok (.aload_n 0, 1) := by decide +kernel
theorem dL_law_650 : decode cL_law 650 = .ok (.iload_n 3, 1) := by decide +kernel
theorem dL_law_651 : decode cL_law 651 = .ok (.iconst 2, 1) := by decide +kernel
theorem dL_law_652 : decode cL_law 652 = .ok (.iadd, 1) := by decide +kernel
theorem dL_law_653 : decode cL_law 653 = .ok (.iaload, 1) := by decide +kernel
theorem dL_law_654 : decode cL_law 654 = .ok (.invokevirtual 75, 3) := by decide +kernel
theorem dL_law_657 : decode cL_law 657 = .ok (.if_icmp .eq 687, 3) := by decide +kernel
theorem dL_law_660 : decode cL_law 660 = .ok (.iconst 0, 1) := by decide +kernel
theorem dL_law_661 : decode cL_law 661 = .ok (.ireturn, 1) := by decide +kernel
theorem dL_law_662 : decode cL_law 662 = .ok (.aload_n 1, 1) := by decide +kernel
theorem dL_law_663 : decode cL_law 663 = .ok (.aload_n 0, 1) := by decide +kernel
theorem dL_law_664 : decode cL_law 664 = .ok (.iload_n 3, 1) := by decide +kernel
theorem dL_law_665 : decode cL_law 665 = .ok (.iconst 1, 1) := by decide +kernel
theorem dL_law_666 : decode cL_law 666 = .ok (.iadd, 1) := by decide +kernel
theorem dL_law_667 : decode cL_law 667 = .ok (.iaload, 1) := by decide +kernel
theorem dL_law_668 : decode cL_law 668 = .ok (.aload_n 0, 1) := by decide +kernel
theorem dL_law_669 : decode cL_law 669 = .ok (.iload_n 3, 1) := by decide +kernel
theorem dL_law_670 : decode cL_law 670 = .ok (.iconst 2, 1) := by decide +kernel
theorem dL_law_671 : decode cL_law 671 = .ok (.iadd, 1) := by decide +kernel
theorem dL_law_672 : decode cL_law 672 = .ok (.iaload, 1) := by decide +kernel
theorem dL_law_673 : decode cL_law 673 = .ok (.invokevirtual 76, 3) := by decide +kernel
theorem dL_law_676 : decode cL_law 676 = .ok (.aload_n 2, 1) := by decide +kernel
theorem dL_law_677 : decode cL_law 677 = .ok (.aload_n 0, 1) := by decide +kernel
theorem dL_law_678 : decode cL_law 678 = .ok (.iload_n 3, 1) := by decide +kernel
theorem dL_law_679 : decode cL_law 679 = .ok (.iconst 1, 1) := by decide +kernel
theorem dL_law_680 : decode cL_law 680 = .ok (.iadd, 1) := by decide +kernel
theorem dL_law_681 : decode cL_law 681 = .ok (.iaload, 1) := by decide +kernel
theorem dL_law_682 : decode cL_law 682 = .ok (.aload_n 0, 1) := by decide +kernel
theorem dL_law_683 : decode cL_law 683 = .ok (.iload_n 3, 1) := by decide +kernel
theorem dL_law_684 : decode cL_law 684 = .ok (.iconst 2, 1) := by decide +kernel
theorem dL_law_685 : decode cL_law 685 = .ok (.iadd, 1) := by decide +kernel
theorem dL_law_686 : decode cL_law 686 = .ok (.iaload, 1) := by decide +kernel
theorem dL_law_687 : decode cL_law 687 = .ok (.invokevirtual 79, 3) := by decide +kernel
theorem dL_law_690 : decode cL_law 690 = .ok (.if_icmp .eq 654, 3) := by decide +kernel
theorem dL_law_693 : decode cL_law 693 = .ok (.iconst 0, 1) := by decide +kernel
theorem dL_law_694 : decode cL_law 694 = .ok (.ireturn, 1) := by decide +kernel
theorem dL_law_695 : decode cL_law 695 = .ok (.aload_n 1, 1) := by decide +kernel
theorem dL_law_696 : decode cL_law 696 = .ok (.aload_n 0, 1) := by decide +kernel
theorem dL_law_697 : decode cL_law 697 = .ok (.iload_n 3, 1) := by decide +kernel
theorem dL_law_698 : decode cL_law 698 = .ok (.iconst 1, 1) := by decide +kernel
theorem dL_law_699 : decode cL_law 699 = .ok (.iadd, 1) := by decide +kernel
theorem dL_law_700 : decode cL_law 700 = .ok (.iaload, 1) := by decide +kernel
theorem dL_law_701 : decode cL_law 701 = .ok (.aload_n 0, 1) := by decide +kernel
theorem dL_law_702 : decode cL_law 702 = .ok (.iload_n 3, 1) := by decide +kernel
theorem dL_law_703 : decode cL_law 703 = .ok (.iconst 2, 1) := by decide +kernel
theorem dL_law_704 : decode cL_law 704 = .ok (.iadd, 1) := by decide +kernel
theorem dL_law_705 : decode cL_law 705 = .ok (.iaload, 1) := by decide +kernel
theorem dL_law_706 : decode cL_law 706 = .ok (.invokevirtual 80, 3) := by decide +kernel
theorem dL_law_709 : decode cL_law 709 = .ok (.aload_n 2, 1) := by decide +kernel
theorem dL_law_710 : decode cL_law 710 = .ok (.aload_n 0, 1) := by decide +kernel
theorem dL_law_711 : decode cL_law 711 = .ok (.iload_n 3, 1) := by decide +kernel
theorem dL_law_712 : decode cL_law 712 = .ok (.iconst 1, 1) := by decide +kernel
theorem dL_law_713 : decode cL_law 713 = .ok (.iadd, 1) := by decide +kernel
theorem dL_law_714 : decode cL_law 714 = .ok (.iaload, 1) := by decide +kernel
theorem dL_law_715 : decode cL_law 715 = .ok (.aload_n 0, 1) := by decide +kernel
theorem dL_law_716 : decode cL_law 716 = .ok (.iload_n 3, 1) := by decide +kernel
theorem dL_law_717 : decode cL_law 717 = .ok (.iconst 2, 1) := by decide +kernel
theorem dL_law_718 : decode cL_law 718 = .ok (.iadd, 1) := by decide +kernel
theorem dL_law_719 : decode cL_law 719 = .ok (.iaload, 1) := by decide +kernel
theorem dL_law_720 : decode cL_law 720 = .ok (.invokevirtual 83, 3) := by decide +kernel
theorem dL_law_723 : decode cL_law 723 = .ok (.if_icmp .eq 621, 3) := by decide +kernel
theorem dL_law_726 : decode cL_law 726 = .ok (.iconst 0, 1) := by decide +kernel
theorem dL_law_727 : decode cL_law 727 = .ok (.ireturn, 1) := by decide +kernel
theorem dL_law_728 : decode cL_law 728 = .ok (.aload_n 1, 1) := by decide +kernel
theorem dL_law_729 : decode cL_law 729 = .ok (.aload_n 0, 1) := by decide +kernel
theorem dL_law_730 : decode cL_law 730 = .ok (.iload_n 3, 1) := by decide +kernel
theorem dL_law_731 : decode cL_law 731 = .ok (.iconst 1, 1) := by decide +kernel
theorem dL_law_732 : decode cL_law 732 = .ok (.iadd, 1) := by decide +kernel
theorem dL_law_733 : decode cL_law 733 = .ok (.iaload, 1) := by decide +kernel
theorem dL_law_734 : decode cL_law 734 = .ok (.invokevirtual 84, 3) := by decide +kernel
theorem dL_law_737 : decode cL_law 737 = .ok (.aload_n 2, 1) := by decide +kernel
theorem dL_law_738 : decode cL_law 738 = .ok (.aload_n 0, 1) := by decide +kernel
theorem dL_law_739 : decode cL_law 739 = .ok (.iload_n 3, 1) := by decide +kernel
theorem dL_law_740 : decode cL_law 740 = .ok (.iconst 1, 1) := by decide +kernel
theorem dL_law_741 : decode cL_law 741 = .ok (.iadd, 1) := by decide +kernel
theorem dL_law_742 : decode cL_law 742 = .ok (.iaload, 1) := by decide +kernel
theorem dL_law_743 : decode cL_law 743 = .ok (.invokevirtual 87, 3) := by decide +kernel
theorem dL_law_746 : decode cL_law 746 = .ok (.if_icmp .eq 598, 3) := by decide +kernel
theorem dL_law_749 : decode cL_law 749 = .ok (.iconst 0, 1) := by decide +kernel
theorem dL_law_750 : decode cL_law 750 = .ok (.ireturn, 1) := by decide +kernel
theorem dL_law_751 : decode cL_law 751 = .ok (.aload_n 1, 1) := by decide +kernel
theorem dL_law_752 : decode cL_law 752 = .ok (.aload_n 0, 1) := by decide +kernel
theorem dL_law_753 : decode cL_law 753 = .ok (.iload_n 3, 1) := by decide +kernel
theorem dL_law_754 : decode cL_law 754 = .ok (.iconst 1, 1) := by decide +kernel
theorem dL_law_755 : decode cL_law 755 = .ok (.iadd, 1) := by decide +kernel
theorem dL_law_756 : decode cL_law 756 = .ok (.iaload, 1) := by decide +kernel
theorem dL_law_757 : decode cL_law 757 = .ok (.invokevirtual 88, 3) := by decide +kernel
theorem dL_law_760 : decode cL_law 760 = .ok (.aload_n 2, 1) := by decide +kernel
theorem dL_law_761 : decode cL_law 761 = .ok (.aload_n 0, 1) := by decide +kernel
theorem dL_law_762 : decode cL_law 762 = .ok (.iload_n 3, 1) := by decide +kernel
theorem dL_law_763 : decode cL_law 763 = .ok (.iconst 1, 1) := by decide +kernel
theorem dL_law_764 : decode cL_law 764 = .ok (.iadd, 1) := by decide +kernel
theorem dL_law_765 : decode cL_law 765 = .ok (.iaload, 1) := by decide +kernel
theorem dL_law_766 : decode cL_law 766 = .ok (.invokevirtual 91, 3) := by decide +kernel
theorem dL_law_769 : decode cL_law 769 = .ok (.if_icmp .eq 575, 3) := by decide +kernel
theorem dL_law_772 : decode cL_law 772 = .ok (.iconst 0, 1) := by decide +kernel
theorem dL_law_773 : decode cL_law 773 = .ok (.ireturn, 1) := by decide +kernel
theorem dL_law_774 : decode cL_law 774 = .ok (.aload_n 1, 1) := by decide +kernel
theorem dL_law_775 : decode cL_law 775 = .ok (.aload_n 0, 1) := by decide +kernel
theorem dL_law_776 : decode cL_law 776 = .ok (.iload_n 3, 1) := by decide +kernel
theorem dL_law_777 : decode cL_law 777 = .ok (.iconst 1, 1) := by decide +kernel
theorem dL_law_778 : decode cL_law 778 = .ok (.iadd, 1) := by decide +kernel
theorem dL_law_779 : decode cL_law 779 = .ok (.iaload, 1) := by decide +kernel
theorem dL_law_780 : decode cL_law 780 = .ok (.invokevirtual 92, 3) := by decide +kernel
theorem dL_law_783 : decode cL_law 783 = .ok (.aload_n 2, 1) := by decide +kernel
theorem dL_law_784 : decode cL_law 784 = .ok (.aload_n 0, 1) := by decide +kernel
theorem dL_law_785 : decode cL_law 785 = .ok (.iload_n 3, 1) := by decide +kernel
theorem dL_law_786 : decode cL_law 786 = .ok (.iconst 1, 1) := by decide +kernel
theorem dL_law_787 : decode cL_law 787 = .ok (.iadd, 1) := by decide +kernel
theorem dL_law_788 : decode cL_law 788 = .ok (.iaload, 1) := by decide +kernel
theorem dL_law_789 : decode cL_law 789 = .ok (.invokevirtual 95, 3) := by decide +kernel
theorem dL_law_792 : decode cL_law 792 = .ok (.if_icmp .eq 552, 3) := by decide +kernel
theorem dL_law_795 : decode cL_law 795 = .ok (.iconst 0, 1) := by decide +kernel
theorem dL_law_796 : decode cL_law 796 = .ok (.ireturn, 1) := by decide +kernel
theorem dL_law_797 : decode cL_law 797 = .ok (.aload_n 1, 1) := by decide +kernel
theorem dL_law_798 : decode cL_law 798 = .ok (.aload_n 0, 1) := by decide +kernel
theorem dL_law_799 : decode cL_law 799 = .ok (.iload_n 3, 1) := by decide +kernel
theorem dL_law_800 : decode cL_law 800 = .ok (.iconst 1, 1) := by decide +kernel
theorem dL_law_801 : decode cL_law 801 = .ok (.iadd, 1) := by decide +kernel
theorem dL_law_802 : decode cL_law 802 = .ok (.iaload, 1) := by decide +kernel
theorem dL_law_803 : decode cL_law 803 = .ok (.aload_n 0, 1) := by decide +kernel
theorem dL_law_804 : decode cL_law 804 = .ok (.iload_n 3, 1) := by decide +kernel
theorem dL_law_805 : decode cL_law 805 = .ok (.iconst 2, 1) := by decide +kernel
theorem dL_law_806 : decode cL_law 806 = .ok (.iadd, 1) := by decide +kernel
theorem dL_law_807 : decode cL_law 807 = .ok (.iaload, 1) := by decide +kernel
theorem dL_law_808 : decode cL_law 808 = .ok (.invokevirtual 96, 3) := by decide +kernel
theorem dL_law_811 : decode cL_law 811 = .ok (.aload_n 2, 1) := by decide +kernel
theorem dL_law_812 : decode cL_law 812 = .ok (.aload_n 0, 1) := by decide +kernel
theorem dL_law_813 : decode cL_law 813 = .ok (.iload_n 3, 1) := by decide +kernel
theorem dL_law_814 : decode cL_law 814 = .ok (.iconst 1, 1) := by decide +kernel
theorem dL_law_815 : decode cL_law 815 = .ok (.iadd, 1) := by decide +kernel
theorem dL_law_816 : decode cL_law 816 = .ok (.iaload, 1) := by decide +kernel
theorem dL_law_817 : decode cL_law 817 = .ok (.aload_n 0, 1) := by decide +kernel
theorem dL_law_818 : decode cL_law 818 = .ok (.iload_n 3, 1) := by decide +kernel
theorem dL_law_819 : decode cL_law 819 = .ok (.iconst 2, 1) := by decide +kernel
theorem dL_law_820 : decode cL_law 820 = .ok (.iadd, 1) := by decide +kernel
theorem dL_law_821 : decode cL_law 821 = .ok (.iaload, 1) := by decide +kernel
theorem dL_law_822 : decode cL_law 822 = .ok (.invokevirtual 99, 3) := by decide +kernel
theorem dL_law_825 : decode cL_law 825 = .ok (.if_icmp .eq 519, 3) := by decide +kernel
theorem dL_law_828 : decode cL_law 828 = .ok (.iconst 0, 1) := by decide +kernel
theorem dL_law_829 : decode cL_law 829 = .ok (.ireturn, 1) := by decide +kernel
theorem dL_law_830 : decode cL_law 830 = .ok (.aload_n 1, 1) := by decide +kernel
theorem dL_law_831 : decode cL_law 831 = .ok (.invokevirtual 100, 3) := by decide +kernel
theorem dL_law_834 : decode cL_law 834 = .ok (.aload_n 2, 1) := by decide +kernel
theorem dL_law_835 : decode cL_law 835 = .ok (.invokevirtual 104, 3) := by decide +kernel
theorem dL_law_838 : decode cL_law 838 = .ok (.if_icmp .eq 506, 3) := by decide +kernel
theorem dL_law_841 : decode cL_law 841 = .ok (.iconst 0, 1) := by decide +kernel
theorem dL_law_842 : decode cL_law 842 = .ok (.ireturn, 1) := by decide +kernel
theorem dL_law_843 : decode cL_law 843 = .ok (.aload_n 1, 1) := by decide +kernel
theorem dL_law_844 : decode cL_law 844 = .ok (.aload_n 0, 1) := by decide +kernel
theorem dL_law_845 : decode cL_law 845 = .ok (.iload_n 3, 1) := by decide +kernel
theorem dL_law_846 : decode cL_law 846 = .ok (.iconst 1, 1) := by decide +kernel
theorem dL_law_847 : decode cL_law 847 = .ok (.iadd, 1) := by decide +kernel
theorem dL_law_848 : decode cL_law 848 = .ok (.iaload, 1) := by decide +kernel
theorem dL_law_849 : decode cL_law 849 = .ok (.aload_n 0, 1) := by decide +kernel
theorem dL_law_850 : decode cL_law 850 = .ok (.iload_n 3, 1) := by decide +kernel
theorem dL_law_851 : decode cL_law 851 = .ok (.iconst 2, 1) := by decide +kernel
theorem dL_law_852 : decode cL_law 852 = .ok (.iadd, 1) := by decide +kernel
theorem dL_law_853 : decode cL_law 853 = .ok (.iaload, 1) := by decide +kernel
theorem dL_law_854 : decode cL_law 854 = .ok (.invokevirtual 105, 3) := by decide +kernel
theorem dL_law_857 : decode cL_law 857 = .ok (.aload_n 2, 1) := by decide +kernel
theorem dL_law_858 : decode cL_law 858 = .ok (.aload_n 0, 1) := by decide +kernel
theorem dL_law_859 : decode cL_law 859 = .ok (.iload_n 3, 1) := by decide +kernel
theorem dL_law_860 : decode cL_law 860 = .ok (.iconst 1, 1) := by decide +kernel
theorem dL_law_861 : decode cL_law 861 = .ok (.iadd, 1) := by decide +kernel
theorem dL_law_862 : decode cL_law 862 = .ok (.iaload, 1) := by decide +kernel
theorem dL_law_863 : decode cL_law 863 = .ok (.aload_n 0, 1) := by decide +kernel
theorem dL_law_864 : decode cL_law 864 = .ok (.iload_n 3, 1) := by decide +kernel
theorem dL_law_865 : decode cL_law 865 = .ok (.iconst 2, 1) := by decide +kernel
theorem dL_law_866 : decode cL_law 866 = .ok (.iadd, 1) := by decide +kernel
theorem dL_law_867 : decode cL_law 867 = .ok (.iaload, 1) := by decide +kernel
theorem dL_law_868 : decode cL_law 868 = .ok (.invokevirtual 108, 3) := by decide +kernel
theorem dL_law_871 : decode cL_law 871 = .ok (.if_icmp .eq 473, 3) := by decide +kernel
theorem dL_law_874 : decode cL_law 874 = .ok (.iconst 0, 1) := by decide +kernel
theorem dL_law_875 : decode cL_law 875 = .ok (.ireturn, 1) := by decide +kernel
theorem dL_law_876 : decode cL_law 876 = .ok (.aload_n 1, 1) := by decide +kernel
theorem dL_law_877 : decode cL_law 877 = .ok (.aload_n 0, 1) := by decide +kernel
theorem dL_law_878 : decode cL_law 878 = .ok (.iload_n 3, 1) := by decide +kernel
theorem dL_law_879 : decode cL_law 879 = .ok (.iconst 1, 1) := by decide +kernel
theorem dL_law_880 : decode cL_law 880 = .ok (.iadd, 1) := by decide +kernel
theorem dL_law_881 : decode cL_law 881 = .ok (.iaload, 1) := by decide +kernel
theorem dL_law_882 : decode cL_law 882 = .ok (.aload_n 0, 1) := by decide +kernel
theorem dL_law_883 : decode cL_law 883 = .ok (.iload_n 3, 1) := by decide +kernel
theorem dL_law_884 : decode cL_law 884 = .ok (.iconst 2, 1) := by decide +kernel
theorem dL_law_885 : decode cL_law 885 = .ok (.iadd, 1) := by decide +kernel
theorem dL_law_886 : decode cL_law 886 = .ok (.iaload, 1) := by decide +kernel
theorem dL_law_887 : decode cL_law 887 = .ok (.aload_n 0, 1) := by decide +kernel
theorem dL_law_888 : decode cL_law 888 = .ok (.iload_n 3, 1) := by decide +kernel
theorem dL_law_889 : decode cL_law 889 = .ok (.iconst 3, 1) := by decide +kernel
theorem dL_law_890 : decode cL_law 890 = .ok (.iadd, 1) := by decide +kernel
theorem dL_law_891 : decode cL_law 891 = .ok (.iaload, 1) := by decide +kernel
theorem dL_law_892 : decode cL_law 892 = .ok (.invokevirtual 109, 3) := by decide +kernel
theorem dL_law_895 : decode cL_law 895 = .ok (.aload_n 2, 1) := by decide +kernel
theorem dL_law_896 : decode cL_law 896 = .ok (.aload_n 0, 1) := by decide +kernel
theorem dL_law_897 : decode cL_law 897 = .ok (.iload_n 3, 1) := by decide +kernel
theorem dL_law_898 : decode cL_law 898 = .ok (.iconst 1, 1) := by decide +kernel
theorem dL_law_899 : decode cL_law 899 = .ok (.iadd, 1) := by decide +kernel
theorem dL_law_900 : decode cL_law 900 = .ok (.iaload, 1) := by decide +kernel
theorem dL_law_901 : decode cL_law 901 = .ok (.aload_n 0, 1) := by decide +kernel
theorem dL_law_902 : decode cL_law 902 = .ok (.iload_n 3, 1) := by decide +kernel
theorem dL_law_903 : decode cL_law 903 = .ok (.iconst 2, 1) := by decide +kernel
theorem dL_law_904 : decode cL_law 904 = .ok (.iadd, 1) := by decide +kernel
theorem dL_law_905 : decode cL_law 905 = .ok (.iaload, 1) := by decide +kernel
theorem dL_law_906 : decode cL_law 906 = .ok (.aload_n 0, 1) := by decide +kernel
theorem dL_law_907 : decode cL_law 907 = .ok (.iload_n 3, 1) := by decide +kernel
theorem dL_law_908 : decode cL_law 908 = .ok (.iconst 3, 1) := by decide +kernel
theorem dL_law_909 : decode cL_law 909 = .ok (.iadd, 1) := by decide +kernel
theorem dL_law_910 : decode cL_law 910 = .ok (.iaload, 1) := by decide +kernel
theorem dL_law_911 : decode cL_law 911 = .ok (.invokevirtual 112, 3) := by decide +kernel
theorem dL_law_914 : decode cL_law 914 = .ok (.if_icmp .eq 430, 3) := by decide +kernel
theorem dL_law_917 : decode cL_law 917 = .ok (.iconst 0, 1) := by decide +kernel
theorem dL_law_918 : decode cL_law 918 = .ok (.ireturn, 1) := by decide +kernel
theorem dL_law_919 : decode cL_law 919 = .ok (.aload_n 1, 1) := by decide +kernel
theorem dL_law_920 : decode cL_law 920 = .ok (.aload_n 0, 1) := by decide +kernel
theorem dL_law_921 : decode cL_law 921 = .ok (.iload_n 3, 1) := by decide +kernel
theorem dL_law_922 : decode cL_law 922 = .ok (.iconst 1, 1) := by decide +kernel
theorem dL_law_923 : decode cL_law 923 = .ok (.iadd, 1) := by decide +kernel
theorem dL_law_924 : decode cL_law 924 = .ok (.iaload, 1) := by decide +kernel
theorem dL_law_925 : decode cL_law 925 = .ok (.aload_n 0, 1) := by decide +kernel
theorem dL_law_926 : decode cL_law 926 = .ok (.iload_n 3, 1) := by decide +kernel
theorem dL_law_927 : decode cL_law 927 = .ok (.iconst 2, 1) := by decide +kernel
theorem dL_law_928 : decode cL_law 928 = .ok (.iadd, 1) := by decide +kernel
theorem dL_law_929 : decode cL_law 929 = .ok (.iaload, 1) := by decide +kernel
theorem dL_law_930 : decode cL_law 930 = .ok (.invokevirtual 113, 3) := by decide +kernel
theorem dL_law_933 : decode cL_law 933 = .ok (.aload_n 2, 1) := by decide +kernel
theorem dL_law_934 : decode cL_law 934 = .ok (.aload_n 0, 1) := by decide +kernel
theorem dL_law_935 : decode cL_law 935 = .ok (.iload_n 3, 1) := by decide +kernel
theorem dL_law_936 : decode cL_law 936 = .ok (.iconst 1, 1) := by decide +kernel
theorem dL_law_937 : decode cL_law 937 = .ok (.iadd, 1) := by decide +kernel
theorem dL_law_938 : decode cL_law 938 = .ok (.iaload, 1) := by decide +kernel
theorem dL_law_939 : decode cL_law 939 = .ok (.aload_n 0, 1) := by decide +kernel
theorem dL_law_940 : decode cL_law 940 = .ok (.iload_n 3, 1) := by decide +kernel
theorem dL_law_941 : decode cL_law 941 = .ok (.iconst 2, 1) := by decide +kernel
theorem dL_law_942 : decode cL_law 942 = .ok (.iadd, 1) := by decide +kernel
theorem dL_law_943 : decode cL_law 943 = .ok (.iaload, 1) := by decide +kernel
theorem dL_law_944 : decode cL_law 944 = .ok (.invokevirtual 116, 3) := by decide +kernel
theorem dL_law_947 : decode cL_law 947 = .ok (.if_icmp .eq 397, 3) := by decide +kernel
theorem dL_law_950 : decode cL_law 950 = .ok (.iconst 0, 1) := by decide +kernel
theorem dL_law_951 : decode cL_law 951 = .ok (.ireturn, 1) := by decide +kernel
theorem dL_law_952 : decode cL_law 952 = .ok (.aload_n 1, 1) := by decide +kernel
theorem dL_law_953 : decode cL_law 953 = .ok (.aload_n 0, 1) := by decide +kernel
theorem dL_law_954 : decode cL_law 954 = .ok (.iload_n 3, 1) := by decide +kernel
theorem dL_law_955 : decode cL_law 955 = .ok (.iconst 1, 1) := by decide +kernel
theorem dL_law_956 : decode cL_law 956 = .ok (.iadd, 1) := by decide +kernel
theorem dL_law_957 : decode cL_law 957 = .ok (.iaload, 1) := by decide +kernel
theorem dL_law_958 : decode cL_law 958 = .ok (.invokevirtual 117, 3) := by decide +kernel
theorem dL_law_961 : decode cL_law 961 = .ok (.aload_n 2, 1) := by decide +kernel
theorem dL_law_962 : decode cL_law 962 = .ok (.aload_n 0, 1) := by decide +kernel
theorem dL_law_963 : decode cL_law 963 = .ok (.iload_n 3, 1) := by decide +kernel
theorem dL_law_964 : decode cL_law 964 = .ok (.iconst 1, 1) := by decide +kernel
theorem dL_law_965 : decode cL_law 965 = .ok (.iadd, 1) := by decide +kernel
theorem dL_law_966 : decode cL_law 966 = .ok (.iaload, 1) := by decide +kernel
theorem dL_law_967 : decode cL_law 967 = .ok (.invokevirtual 120, 3) := by decide +kernel
theorem dL_law_970 : decode cL_law 970 = .ok (.if_icmp .eq 374, 3) := by decide +kernel
theorem dL_law_973 : decode cL_law 973 = .ok (.iconst 0, 1) := by decide +kernel
theorem dL_law_974 : decode cL_law 974 = .ok (.ireturn, 1) := by decide +kernel
theorem dL_law_975 : decode cL_law 975 = .ok (.aload_n 1, 1) := by decide +kernel
theorem dL_law_976 : decode cL_law 976 = .ok (.aload_n 0, 1) := by decide +kernel
theorem dL_law_977 : decode cL_law 977 = .ok (.iload_n 3, 1) := by decide +kernel
theorem dL_law_978 : decode cL_law 978 = .ok (.iconst 1, 1) := by decide +kernel
theorem dL_law_979 : decode cL_law 979 = .ok (.iadd, 1) := by decide +kernel
theorem dL_law_980 : decode cL_law 980 = .ok (.iaload, 1) := by decide +kernel
theorem dL_law_981 : decode cL_law 981 = .ok (.aload_n 0, 1) := by decide +kernel
theorem dL_law_982 : decode cL_law 982 = .ok (.iload_n 3, 1) := by decide +kernel
theorem dL_law_983 : decode cL_law 983 = .ok (.iconst 2, 1) := by decide +kernel
theorem dL_law_984 : decode cL_law 984 = .ok (.iadd, 1) := by decide +kernel
theorem dL_law_985 : decode cL_law 985 = .ok (.iaload, 1) := by decide +kernel
theorem dL_law_986 : decode cL_law 986 = .ok (.aload_n 0, 1) := by decide +kernel
theorem dL_law_987 : decode cL_law 987 = .ok (.iload_n 3, 1) := by decide +kernel
theorem dL_law_988 : decode cL_law 988 = .ok (.iconst 3, 1) := by decide +kernel
theorem dL_law_989 : decode cL_law 989 = .ok (.iadd, 1) := by decide +kernel
theorem dL_law_990 : decode cL_law 990 = .ok (.iaload, 1) := by decide +kernel
theorem dL_law_991 : decode cL_law 991 = .ok (.invokevirtual 121, 3) := by decide +kernel
theorem dL_law_994 : decode cL_law 994 = .ok (.aload_n 2, 1) := by decide +kernel
theorem dL_law_995 : decode cL_law 995 = .ok (.aload_n 0, 1) := by decide +kernel
theorem dL_law_996 : decode cL_law 996 = .ok (.iload_n 3, 1) := by decide +kernel
theorem dL_law_997 : decode cL_law 997 = .ok (.iconst 1, 1) := by decide +kernel
theorem dL_law_998 : decode cL_law 998 = .ok (.iadd, 1) := by decide +kernel
theorem dL_law_999 : decode cL_law 999 = .ok (.iaload, 1) := by decide +kernel
theorem dL_law_1000 : decode cL_law 1000 = .ok (.aload_n 0, 1) := by decide +kernel
theorem dL_law_1001 : decode cL_law 1001 = .ok (.iload_n 3, 1) := by decide +kernel
theorem dL_law_1002 : decode cL_law 1002 = .ok (.iconst 2, 1) := by decide +kernel
theorem dL_law_1003 : decode cL_law 1003 = .ok (.iadd, 1) := by decide +kernel
theorem dL_law_1004 : decode cL_law 1004 = .ok (.iaload, 1) := by decide +kernel
theorem dL_law_1005 : decode cL_law 1005 = .ok (.aload_n 0, 1) := by decide +kernel
theorem dL_law_1006 : decode cL_law 1006 = .ok (.iload_n 3, 1) := by decide +kernel
theorem dL_law_1007 : decode cL_law 1007 = .ok (.iconst 3, 1) := by decide +kernel
theorem dL_law_1008 : decode cL_law 1008 = .ok (.iadd, 1) := by decide +kernel
theorem dL_law_1009 : decode cL_law 1009 = .ok (.iaload, 1) := by decide +kernel
theorem dL_law_1010 : decode cL_law 1010 = .ok (.invokevirtual 124, 3) := by decide +kernel
theorem dL_law_1013 : decode cL_law 1013 = .ok (.if_icmp .eq 331, 3) := by decide +kernel
theorem dL_law_1016 : decode cL_law 1016 = .ok (.iconst 0, 1) := by decide +kernel
theorem dL_law_1017 : decode cL_law 1017 = .ok (.ireturn, 1) := by decide +kernel
theorem dL_law_1018 : decode cL_law 1018 = .ok (.aload_n 1, 1) := by decide +kernel
theorem dL_law_1019 : decode cL_law 1019 = .ok (.aload_n 0, 1) := by decide +kernel
theorem dL_law_1020 : decode cL_law 1020 = .ok (.iload_n 3, 1) := by decide +kernel
theorem dL_law_1021 : decode cL_law 1021 = .ok (.iconst 1, 1) := by decide +kernel
theorem dL_law_1022 : decode cL_law 1022 = .ok (.iadd, 1) := by decide +kernel
theorem dL_law_1023 : decode cL_law 1023 = .ok (.iaload, 1) := by decide +kernel
theorem dL_law_1024 : decode cL_law 1024 = .ok (.invokevirtual 125, 3) := by decide +kernel
theorem dL_law_1027 : decode cL_law 1027 = .ok (.aload_n 2, 1) := by decide +kernel
theorem dL_law_1028 : decode cL_law 1028 = .ok (.aload_n 0, 1) := by decide +kernel
theorem dL_law_1029 : decode cL_law 1029 = .ok (.iload_n 3, 1) := by decide +kernel
theorem dL_law_1030 : decode cL_law 1030 = .ok (.iconst 1, 1) := by decide +kernel
theorem dL_law_1031 : decode cL_law 1031 = .ok (.iadd, 1) := by decide +kernel
theorem dL_law_1032 : decode cL_law 1032 = .ok (.iaload, 1) := by decide +kernel
theorem dL_law_1033 : decode cL_law 1033 = .ok (.invokevirtual 128, 3) := by decide +kernel
theorem dL_law_1036 : decode cL_law 1036 = .ok (.if_icmp .eq 308, 3) := by decide +kernel
theorem dL_law_1039 : decode cL_law 1039 = .ok (.iconst 0, 1) := by decide +kernel
theorem dL_law_1040 : decode cL_law 1040 = .ok (.ireturn, 1) := by decide +kernel
theorem dL_law_1041 : decode cL_law 1041 = .ok (.aload_n 1, 1) := by decide +kernel
theorem dL_law_1042 : decode cL_law 1042 = .ok (.aload_n 0, 1) := by decide +kernel
theorem dL_law_1043 : decode cL_law 1043 = .ok (.iload_n 3, 1) := by decide +kernel
theorem dL_law_1044 : decode cL_law 1044 = .ok (.iconst 1, 1) := by decide +kernel
theorem dL_law_1045 : decode cL_law 1045 = .ok (.iadd, 1) := by decide +kernel
theorem dL_law_1046 : decode cL_law 1046 = .ok (.iaload, 1) := by decide +kernel
theorem dL_law_1047 : decode cL_law 1047 = .ok (.aload_n 0, 1) := by decide +kernel
theorem dL_law_1048 : decode cL_law 1048 = .ok (.iload_n 3, 1) := by decide +kernel
theorem dL_law_1049 : decode cL_law 1049 = .ok (.iconst 2, 1) := by decide +kernel
theorem dL_law_1050 : decode cL_law 1050 = .ok (.iadd, 1) := by decide +kernel
theorem dL_law_1051 : decode cL_law 1051 = .ok (.iaload, 1) := by decide +kernel
theorem dL_law_1052 : decode cL_law 1052 = .ok (.aload_n 0, 1) := by decide +kernel
theorem dL_law_1053 : decode cL_law 1053 = .ok (.iload_n 3, 1) := by decide +kernel
theorem dL_law_1054 : decode cL_law 1054 = .ok (.iconst 3, 1) := by decide +kernel
theorem dL_law_1055 : decode cL_law 1055 = .ok (.iadd, 1) := by decide +kernel
theorem dL_law_1056 : decode cL_law 1056 = .ok (.iaload, 1) := by decide +kernel
theorem dL_law_1057 : decode cL_law 1057 = .ok (.invokevirtual 129, 3) := by decide +kernel
theorem dL_law_1060 : decode cL_law 1060 = .ok (.aload_n 2, 1) := by decide +kernel
theorem dL_law_1061 : decode cL_law 1061 = .ok (.aload_n 0, 1) := by decide +kernel
theorem dL_law_1062 : decode cL_law 1062 = .ok (.iload_n 3, 1) := by decide +kernel
theorem dL_law_1063 : decode cL_law 1063 = .ok (.iconst 1, 1) := by decide +kernel
theorem dL_law_1064 : decode cL_law 1064 = .ok (.iadd, 1) := by decide +kernel
theorem dL_law_1065 : decode cL_law 1065 = .ok (.iaload, 1) := by decide +kernel
theorem dL_law_1066 : decode cL_law 1066 = .ok (.aload_n 0, 1) := by decide +kernel
theorem dL_law_1067 : decode cL_law 1067 = .ok (.iload_n 3, 1) := by decide +kernel
theorem dL_law_1068 : decode cL_law 1068 = .ok (.iconst 2, 1) := by decide +kernel
theorem dL_law_1069 : decode cL_law 1069 = .ok (.iadd, 1) := by decide +kernel
theorem dL_law_1070 : decode cL_law 1070 = .ok (.iaload, 1) := by decide +kernel
theorem dL_law_1071 : decode cL_law 1071 = .ok (.aload_n 0, 1) := by decide +kernel
theorem dL_law_1072 : decode cL_law 1072 = .ok (.iload_n 3, 1) := by decide +kernel
theorem dL_law_1073 : decode cL_law 1073 = .ok (.iconst 3, 1) := by decide +kernel
theorem dL_law_1074 : decode cL_law 1074 = .ok (.iadd, 1) := by decide +kernel
theorem dL_law_1075 : decode cL_law 1075 = .ok (.iaload, 1) := by decide +kernel
theorem dL_law_1076 : decode cL_law 1076 = .ok (.invokevirtual 132, 3) := by decide +kernel
theorem dL_law_1079 : decode cL_law 1079 = .ok (.if_icmp .eq 265, 3) := by decide +kernel
theorem dL_law_1082 : decode cL_law 1082 = .ok (.iconst 0, 1) := by decide +kernel
theorem dL_law_1083 : decode cL_law 1083 = .ok (.ireturn, 1) := by decide +kernel
theorem dL_law_1084 : decode cL_law 1084 = .ok (.aload_n 1, 1) := by decide +kernel
theorem dL_law_1085 : decode cL_law 1085 = .ok (.aload_n 0, 1) := by decide +kernel
theorem dL_law_1086 : decode cL_law 1086 = .ok (.iload_n 3, 1) := by decide +kernel
theorem dL_law_1087 : decode cL_law 1087 = .ok (.iconst 1, 1) := by decide +kernel
theorem dL_law_1088 : decode cL_law 1088 = .ok (.iadd, 1) := by decide +kernel
theorem dL_law_1089 : decode cL_law 1089 = .ok (.iaload, 1) := by decide +kernel
theorem dL_law_1090 : decode cL_law 1090 = .ok (.aload_n 0, 1) := by decide +kernel
theorem dL_law_1091 : decode cL_law 1091 = .ok (.iload_n 3, 1) := by decide +kernel
theorem dL_law_1092 : decode cL_law 1092 = .ok (.iconst 2, 1) := by decide +kernel
theorem dL_law_1093 : decode cL_law 1093 = .ok (.iadd, 1) := by decide +kernel
theorem dL_law_1094 : decode cL_law 1094 = .ok (.iaload, 1) := by decide +kernel
theorem dL_law_1095 : decode cL_law 1095 = .ok (.aload_n 0, 1) := by decide +kernel
theorem dL_law_1096 : decode cL_law 1096 = .ok (.iload_n 3, 1) := by decide +kernel
theorem dL_law_1097 : decode cL_law 1097 = .ok (.iconst 3, 1) := by decide +kernel
theorem dL_law_1098 : decode cL_law 1098 = .ok (.iadd, 1) := by decide +kernel
theorem dL_law_1099 : decode cL_law 1099 = .ok (.iaload, 1) := by decide +kernel
theorem dL_law_1100 : decode cL_law 1100 = .ok (.invokevirtual 133, 3) := by decide +kernel
theorem dL_law_1103 : decode cL_law 1103 = .ok (.aload_n 2, 1) := by decide +kernel
theorem dL_law_1104 : decode cL_law 1104 = .ok (.aload_n 0, 1) := by decide +kernel
theorem dL_law_1105 : decode cL_law 1105 = .ok (.iload_n 3, 1) := by decide +kernel
theorem dL_law_1106 : decode cL_law 1106 = .ok (.iconst 1, 1) := by decide +kernel
theorem dL_law_1107 : decode cL_law 1107 = .ok (.iadd, 1) := by decide +kernel
theorem dL_law_1108 : decode cL_law 1108 = .ok (.iaload, 1) := by decide +kernel
theorem dL_law_1109 : decode cL_law 1109 = .ok (.aload_n 0, 1) := by decide +kernel
theorem dL_law_1110 : decode cL_law 1110 = .ok (.iload_n 3, 1) := by decide +kernel
theorem dL_law_1111 : decode cL_law 1111 = .ok (.iconst 2, 1) := by decide +kernel
theorem dL_law_1112 : decode cL_law 1112 = .ok (.iadd, 1) := by decide +kernel
theorem dL_law_1113 : decode cL_law 1113 = .ok (.iaload, 1) := by decide +kernel
theorem dL_law_1114 : decode cL_law 1114 = .ok (.aload_n 0, 1) := by decide +kernel
theorem dL_law_1115 : decode cL_law 1115 = .ok (.iload_n 3, 1) := by decide +kernel
theorem dL_law_1116 : decode cL_law 1116 = .ok (.iconst 3, 1) := by decide +kernel
theorem dL_law_1117 : decode cL_law 1117 = .ok (.iadd, 1) := by decide +kernel
theorem dL_law_1118 : decode cL_law 1118 = .ok (.iaload, 1) := by decide +kernel
theorem dL_law_1119 : decode cL_law 1119 = .ok (.invokevirtual 136, 3) := by decide +kernel
theorem dL_law_1122 : decode cL_law 1122 = .ok (.if_icmp .eq 222, 3) := by decide +kernel
theorem dL_law_1125 : decode cL_law 1125 = .ok (.iconst 0, 1) := by decide +kernel
theorem dL_law_1126 : decode cL_law 1126 = .ok (.ireturn, 1) := by decide +kernel
theorem dL_law_1127 : decode cL_law 1127 = .ok (.aload_n 1, 1) := by decide +kernel
theorem dL_law_1128 : decode cL_law 1128 = .ok (.aload_n 0, 1) := by decide +kernel
theorem dL_law_1129 : decode cL_law 1129 = .ok (.iload_n 3, 1) := by decide +kernel
theorem dL_law_1130 : decode cL_law 1130 = .ok (.iconst 1, 1) := by decide +kernel
theorem dL_law_1131 : decode cL_law 1131 = .ok (.iadd, 1) := by decide +kernel
theorem dL_law_1132 : decode cL_law 1132 = .ok (.iaload, 1) := by decide +kernel
theorem dL_law_1133 : decode cL_law 1133 = .ok (.aload_n 0, 1) := by decide +kernel
theorem dL_law_1134 : decode cL_law 1134 = .ok (.iload_n 3, 1) := by decide +kernel
theorem dL_law_1135 : decode cL_law 1135 = .ok (.iconst 2, 1) := by decide +kernel
theorem dL_law_1136 : decode cL_law 1136 = .ok (.iadd, 1) := by decide +kernel
theorem dL_law_1137 : decode cL_law 1137 = .ok (.iaload, 1) := by decide +kernel
theorem dL_law_1138 : decode cL_law 1138 = .ok (.aload_n 0, 1) := by decide +kernel
theorem dL_law_1139 : decode cL_law 1139 = .ok (.iload_n 3, 1) := by decide +kernel
theorem dL_law_1140 : decode cL_law 1140 = .ok (.iconst 3, 1) := by decide +kernel
theorem dL_law_1141 : decode cL_law 1141 = .ok (.iadd, 1) := by decide +kernel
theorem dL_law_1142 : decode cL_law 1142 = .ok (.iaload, 1) := by decide +kernel
theorem dL_law_1143 : decode cL_law 1143 = .ok (.aload_n 0, 1) := by decide +kernel
theorem dL_law_1144 : decode cL_law 1144 = .ok (.iload_n 3, 1) := by decide +kernel
theorem dL_law_1145 : decode cL_law 1145 = .ok (.iconst 4, 1) := by decide +kernel
theorem dL_law_1146 : decode cL_law 1146 = .ok (.iadd, 1) := by decide +kernel
theorem dL_law_1147 : decode cL_law 1147 = .ok (.iaload, 1) := by decide +kernel
theorem dL_law_1148 : decode cL_law 1148 = .ok (.aload_n 0, 1) := by decide +kernel
theorem dL_law_1149 : decode cL_law 1149 = .ok (.iload_n 3, 1) := by decide +kernel
theorem dL_law_1150 : decode cL_law 1150 = .ok (.iconst 5, 1) := by decide +kernel
theorem dL_law_1151 : decode cL_law 1151 = .ok (.iadd, 1) := by decide +kernel
theorem dL_law_1152 : decode cL_law 1152 = .ok (.iaload, 1) := by decide +kernel
theorem dL_law_1153 : decode cL_law 1153 = .ok (.invokevirtual 137, 3) := by decide +kernel
theorem dL_law_1156 : decode cL_law 1156 = .ok (.aload_n 2, 1) := by decide +kernel
theorem dL_law_1157 : decode cL_law 1157 = .ok (.aload_n 0, 1) := by decide +kernel
theorem dL_law_1158 : decode cL_law 1158 = .ok (.iload_n 3, 1) := by decide +kernel
theorem dL_law_1159 : decode cL_law 1159 = .ok (.iconst 1, 1) := by decide +kernel
theorem dL_law_1160 : decode cL_law 1160 = .ok (.iadd, 1) := by decide +kernel
theorem dL_law_1161 : decode cL_law 1161 = .ok (.iaload, 1) := by decide +kernel
theorem dL_law_1162 : decode cL_law 1162 = .ok (.aload_n 0, 1) := by decide +kernel
theorem dL_law_1163 : decode cL_law 1163 = .ok (.iload_n 3, 1) := by decide +kernel
theorem dL_law_1164 : decode cL_law 1164 = .ok (.iconst 2, 1) := by decide +kernel
theorem dL_law_1165 : decode cL_law 1165 = .ok (.iadd, 1) := by decide +kernel
theorem dL_law_1166 : decode cL_law 1166 = .ok (.iaload, 1) := by decide +kernel
theorem dL_law_1167 : decode cL_law 1167 = .ok (.aload_n 0, 1) := by decide +kernel
theorem dL_law_1168 : decode cL_law 1168 = .ok (.iload_n 3, 1) := by decide +kernel
theorem dL_law_1169 : decode cL_law 1169 = .ok (.iconst 3, 1) := by decide +kernel
theorem dL_law_1170 : decode cL_law 1170 = .ok (.iadd, 1) := by decide +kernel
theorem dL_law_1171 : decode cL_law 1171 = .ok (.iaload, 1) := by decide +kernel
theorem dL_law_1172 : decode cL_law 1172 = .ok (.aload_n 0, 1) := by decide +kernel
theorem dL_law_1173 : decode cL_law 1173 = .ok (.iload_n 3, 1) := by decide +kernel
theorem dL_law_1174 : decode cL_law 1174 = .ok (.iconst 4, 1) := by decide +kernel
theorem dL_law_1175 : decode cL_law 1175 = .ok (.iadd, 1) := by decide +kernel
theorem dL_law_1176 : decode cL_law 1176 = .ok (.iaload, 1) := by decide +kernel
theorem dL_law_1177 : decode cL_law 1177 = .ok (.aload_n 0, 1) := by decide +kernel
theorem dL_law_1178 : decode cL_law 1178 = .ok (.iload_n 3, 1) := by decide +kernel
theorem dL_law_1179 : decode cL_law 1179 = .ok (.iconst 5, 1) := by decide +kernel
theorem dL_law_1180 : decode cL_law 1180 = .ok (.iadd, 1) := by decide +kernel
theorem dL_law_1181 : decode cL_law 1181 = .ok (.iaload, 1) := by decide +kernel
theorem dL_law_1182 : decode cL_law 1182 = .ok (.invokevirtual 141, 3) := by decide +kernel
theorem dL_law_1185 : decode cL_law 1185 = .ok (.if_icmp .eq 159, 3) := by decide +kernel
theorem dL_law_1188 : decode cL_law 1188 = .ok (.iconst 0, 1) := by decide +kernel
theorem dL_law_1189 : decode cL_law 1189 = .ok (.ireturn, 1) := by decide +kernel
theorem dL_law_1190 : decode cL_law 1190 = .ok (.aload_n 1, 1) := by decide +kernel
theorem dL_law_1191 : decode cL_law 1191 = .ok (.aload_n 0, 1) := by decide +kernel
theorem dL_law_1192 : decode cL_law 1192 = .ok (.iload_n 3, 1) := by decide +kernel
theorem dL_law_1193 : decode cL_law 1193 = .ok (.iconst 1, 1) := by decide +kernel
theorem dL_law_1194 : decode cL_law 1194 = .ok (.iadd, 1) := by decide +kernel
theorem dL_law_1195 : decode cL_law 1195 = .ok (.iaload, 1) := by decide +kernel
theorem dL_law_1196 : decode cL_law 1196 = .ok (.invokevirtual 142, 3) := by decide +kernel
theorem dL_law_1199 : decode cL_law 1199 = .ok (.aload_n 2, 1) := by decide +kernel
theorem dL_law_1200 : decode cL_law 1200 = .ok (.aload_n 0, 1) := by decide +kernel
theorem dL_law_1201 : decode cL_law 1201 = .ok (.iload_n 3, 1) := by decide +kernel
theorem dL_law_1202 : decode cL_law 1202 = .ok (.iconst 1, 1) := by decide +kernel
theorem dL_law_1203 : decode cL_law 1203 = .ok (.iadd, 1) := by decide +kernel
theorem dL_law_1204 : decode cL_law 1204 = .ok (.iaload, 1) := by decide +kernel
theorem dL_law_1205 : decode cL_law 1205 = .ok (.invokevirtual 145, 3) := by decide +kernel
theorem dL_law_1208 : decode cL_law 1208 = .ok (.if_icmp .eq 136, 3) := by decide +kernel
theorem dL_law_1211 : decode cL_law 1211 = .ok (.iconst 0, 1) := by decide +kernel
theorem dL_law_1212 : decode cL_law 1212 = .ok (.ireturn, 1) := by decide +kernel
theorem dL_law_1213 : decode cL_law 1213 = .ok (.aload_n 1, 1) := by decide +kernel
theorem dL_law_1214 : decode cL_law 1214 = .ok (.aload_n 0, 1) := by decide +kernel
theorem dL_law_1215 : decode cL_law 1215 = .ok (.iload_n 3, 1) := by decide +kernel
theorem dL_law_1216 : decode cL_law 1216 = .ok (.iconst 1, 1) := by decide +kernel
theorem dL_law_1217 : decode cL_law 1217 = .ok (.iadd, 1) := by decide +kernel
theorem dL_law_1218 : decode cL_law 1218 = .ok (.iaload, 1) := by decide +kernel
theorem dL_law_1219 : decode cL_law 1219 = .ok (.invokevirtual 146, 3) := by decide +kernel
theorem dL_law_1222 : decode cL_law 1222 = .ok (.aload_n 2, 1) := by decide +kernel
theorem dL_law_1223 : decode cL_law 1223 = .ok (.aload_n 0, 1) := by decide +kernel
theorem dL_law_1224 : decode cL_law 1224 = .ok (.iload_n 3, 1) := by decide +kernel
theorem dL_law_1225 : decode cL_law 1225 = .ok (.iconst 1, 1) := by decide +kernel
theorem dL_law_1226 : decode cL_law 1226 = .ok (.iadd, 1) := by decide +kernel
theorem dL_law_1227 : decode cL_law 1227 = .ok (.iaload, 1) := by decide +kernel
theorem dL_law_1228 : decode cL_law 1228 = .ok (.invokevirtual 149, 3) := by decide +kernel
theorem dL_law_1231 : decode cL_law 1231 = .ok (.if_icmp .eq 113, 3) := by decide +kernel
theorem dL_law_1234 : decode cL_law 1234 = .ok (.iconst 0, 1) := by decide +kernel
theorem dL_law_1235 : decode cL_law 1235 = .ok (.ireturn, 1) := by decide +kernel
theorem dL_law_1236 : decode cL_law 1236 = .ok (.aload_n 1, 1) := by decide +kernel
theorem dL_law_1237 : decode cL_law 1237 = .ok (.invokevirtual 150, 3) := by decide +kernel
theorem dL_law_1240 : decode cL_law 1240 = .ok (.aload_n 2, 1) := by decide +kernel
theorem dL_law_1241 : decode cL_law 1241 = .ok (.invokevirtual 153, 3) := by decide +kernel
theorem dL_law_1244 : decode cL_law 1244 = .ok (.if_icmp .eq 100, 3) := by decide +kernel
theorem dL_law_1247 : decode cL_law 1247 = .ok (.iconst 0, 1) := by decide +kernel
theorem dL_law_1248 : decode cL_law 1248 = .ok (.ireturn, 1) := by decide +kernel
theorem dL_law_1249 : decode cL_law 1249 = .ok (.aload_n 1, 1) := by decide +kernel
theorem dL_law_1250 : decode cL_law 1250 = .ok (.invokevirtual 154, 3) := by decide +kernel
theorem dL_law_1253 : decode cL_law 1253 = .ok (.aload_n 2, 1) := by decide +kernel
theorem dL_law_1254 : decode cL_law 1254 = .ok (.invokevirtual 157, 3) := by decide +kernel
theorem dL_law_1257 : decode cL_law 1257 = .ok (.if_icmp .eq 87, 3) := by decide +kernel
theorem dL_law_1260 : decode cL_law 1260 = .ok (.iconst 0, 1) := by decide +kernel
theorem dL_law_1261 : decode cL_law 1261 = .ok (.ireturn, 1) := by decide +kernel
theorem dL_law_1262 : decode cL_law 1262 = .ok (.aload_n 1, 1) := by decide +kernel
theorem dL_law_1263 : decode cL_law 1263 = .ok (.aload_n 0, 1) := by decide +kernel
theorem dL_law_1264 : decode cL_law 1264 = .ok (.iload_n 3, 1) := by decide +kernel
theorem dL_law_1265 : decode cL_law 1265 = .ok (.iconst 1, 1) := by decide +kernel
theorem dL_law_1266 : decode cL_law 1266 = .ok (.iadd, 1) := by decide +kernel
theorem dL_law_1267 : decode cL_law 1267 = .ok (.iaload, 1) := by decide +kernel
theorem dL_law_1268 : decode cL_law 1268 = .ok (.invokevirtual 158, 3) := by decide +kernel
theorem dL_law_1271 : decode cL_law 1271 = .ok (.aload_n 2, 1) := by decide +kernel
theorem dL_law_1272 : decode cL_law 1272 = .ok (.aload_n 0, 1) := by decide +kernel
theorem dL_law_1273 : decode cL_law 1273 = .ok (.iload_n 3, 1) := by decide +kernel
theorem dL_law_1274 : decode cL_law 1274 = .ok (.iconst 1, 1) := by decide +kernel
theorem dL_law_1275 : decode cL_law 1275 = .ok (.iadd, 1) := by decide +kernel
theorem dL_law_1276 : decode cL_law 1276 = .ok (.iaload, 1) := by decide +kernel
theorem dL_law_1277 : decode cL_law 1277 = .ok (.invokevirtual 161, 3) := by decide +kernel
theorem dL_law_1280 : decode cL_law 1280 = .ok (.if_icmp .eq 64, 3) := by decide +kernel
theorem dL_law_1283 : decode cL_law 1283 = .ok (.iconst 0, 1) := by decide +kernel
theorem dL_law_1284 : decode cL_law 1284 = .ok (.ireturn, 1) := by decide +kernel
theorem dL_law_1285 : decode cL_law 1285 = .ok (.aload_n 1, 1) := by decide +kernel
theorem dL_law_1286 : decode cL_law 1286 = .ok (.invokevirtual 162, 3) := by decide +kernel
theorem dL_law_1289 : decode cL_law 1289 = .ok (.aload_n 2, 1) := by decide +kernel
theorem dL_law_1290 : decode cL_law 1290 = .ok (.invokevirtual 165, 3) := by decide +kernel
theorem dL_law_1293 : decode cL_law 1293 = .ok (.if_icmp .eq 51, 3) := by decide +kernel
theorem dL_law_1296 : decode cL_law 1296 = .ok (.iconst 0, 1) := by decide +kernel
theorem dL_law_1297 : decode cL_law 1297 = .ok (.ireturn, 1) := by decide +kernel
theorem dL_law_1298 : decode cL_law 1298 = .ok (.aload_n 1, 1) := by decide +kernel
theorem dL_law_1299 : decode cL_law 1299 = .ok (.aload_n 0, 1) := by decide +kernel
theorem dL_law_1300 : decode cL_law 1300 = .ok (.iload_n 3, 1) := by decide +kernel
theorem dL_law_1301 : decode cL_law 1301 = .ok (.iconst 1, 1) := by decide +kernel
theorem dL_law_1302 : decode cL_law 1302 = .ok (.iadd, 1) := by decide +kernel
theorem dL_law_1303 : decode cL_law 1303 = .ok (.iaload, 1) := by decide +kernel
theorem dL_law_1304 : decode cL_law 1304 = .ok (.invokevirtual 166, 3) := by decide +kernel
theorem dL_law_1307 : decode cL_law 1307 = .ok (.aload_n 2, 1) := by decide +kernel
theorem dL_law_1308 : decode cL_law 1308 = .ok (.aload_n 0, 1) := by decide +kernel
theorem dL_law_1309 : decode cL_law 1309 = .ok (.iload_n 3, 1) := by decide +kernel
theorem dL_law_1310 : decode cL_law 1310 = .ok (.iconst 1, 1) := by decide +kernel
theorem dL_law_1311 : decode cL_law 1311 = .ok (.iadd, 1) := by decide +kernel
theorem dL_law_1312 : decode cL_law 1312 = .ok (.iaload, 1) := by decide +kernel
theorem dL_law_1313 : decode cL_law 1313 = .ok (.invokevirtual 169, 3) := by decide +kernel
theorem dL_law_1316 : decode cL_law 1316 = .ok (.if_icmp .eq 28, 3) := by decide +kernel
theorem dL_law_1319 : decode cL_law 1319 = .ok (.iconst 0, 1) := by decide +kernel
theorem dL_law_1320 : decode cL_law 1320 = .ok (.ireturn, 1) := by decide +kernel
theorem dL_law_1321 : decode cL_law 1321 = .ok (.aload_n 1, 1) := by decide +kernel
theorem dL_law_1322 : decode cL_law 1322 = .ok (.aload_n 0, 1) := by decide +kernel
theorem dL_law_1323 : decode cL_law 1323 = .ok (.iload_n 3, 1) := by decide +kernel
theorem dL_law_1324 : decode cL_law 1324 = .ok (.iconst 1, 1) := by decide +kernel
theorem dL_law_1325 : decode cL_law 1325 = .ok (.iadd, 1) := by decide +kernel
theorem dL_law_1326 : decode cL_law 1326 = .ok (.iaload, 1) := by decide +kernel
theorem dL_law_1327 : decode cL_law 1327 = .ok (.invokevirtual 170, 3) := by decide +kernel
theorem dL_law_1330 : decode cL_law 1330 = .ok (.aload_n 2, 1) := by decide +kernel
theorem dL_law_1331 : decode cL_law 1331 = .ok (.aload_n 0, 1) := by decide +kernel
theorem dL_law_1332 : decode cL_law 1332 = .ok (.iload_n 3, 1) := by decide +kernel
theorem dL_law_1333 : decode cL_law 1333 = .ok (.iconst 1, 1) := by decide +kernel
theorem dL_law_1334 : decode cL_law 1334 = .ok (.iadd, 1) := by decide +kernel
theorem dL_law_1335 : decode cL_law 1335 = .ok (.iaload, 1) := by decide +kernel
theorem dL_law_1336 : decode cL_law 1336 = .ok (.invokevirtual 173, 3) := by decide +kernel
theorem dL_law_1339 : decode cL_law 1339 = .ok (.if_icmp .eq 5, 3) := by decide +kernel
theorem dL_law_1342 : decode cL_law 1342 = .ok (.iconst 0, 1) := by decide +kernel
theorem dL_law_1343 : decode cL_law 1343 = .ok (.ireturn, 1) := by decide +kernel
theorem dL_law_1344 : decode cL_law 1344 = .ok (.iinc 3 6, 3) := by decide +kernel
theorem dL_law_1347 : decode cL_law 1347 = .ok (.goto (-1329), 3) := by decide +kernel
theorem dL_law_1350 : decode cL_law 1350 = .ok (.iconst 1, 1) := by decide +kernel
theorem dL_law_1351 : decode cL_law 1351 = .ok (.ireturn, 1) := by decide +kernel
end
section
-- THE STATE IS ONE MATRIX OF INTS: cell k, place j. References that never change are read off the shape.
abbrev Sg : Type := Nat → Nat → Int32
def u2 (σ : Sg) (k j : Nat) (v : Int32) : Sg := fun a b => if a = k ∧ b = j then v else σ a b
def c2 (σ : Sg) (k0 sp k1 dp n : Nat) : Sg := fun a b => if a = k1 then va_cpy (σ k0) (σ k1) sp dp n b else σ a b
abbrev ix (i : Int32) : Nat := i.toNatClampNeg
-- a cell of the shape: its kind (1 + the class's number, 20 ints, 21.. references), its length, the first target, the step between targets
abbrev Shp : Type := List (Nat × Nat × Nat × Nat)
def kd (S : Shp) (k : Nat) : Nat := (S.getD k (0, 0, 0, 0)).1
def ln (S : Shp) (k : Nat) : Nat := (S.getD k (0, 0, 0, 0)).2.1
def bs (S : Shp) (k : Nat) : Nat := (S.getD k (0, 0, 0, 0)).2.2.1
def sd (S : Shp) (k : Nat) : Nat := (S.getD k (0, 0, 0, 0)).2.2.2
-- of a class: what each place is: 0 an int, 1 a reference to the cell so many on, 2 null at 0, else a reference to that cell, 3 a text
def slt (c : Nat) : List (Nat × Nat) := match c with
  | 1 => [(1, 1), (0, 0), (1, 11), (0, 0), (0, 0), (0, 0), (0, 0), (1, 13), (1, 15), (1, 28), (1, 30)]
  | 2 => [(1, 1), (0, 0)]
  | 3 => [(0, 0), (1, 1)]
  | 4 => [(1, 1), (1, 3), (1, 5), (2, 30), (3, 0), (0, 0)]
  | 5 => [(0, 0), (0, 0), (0, 0), (0, 0)]
  | 6 => [(1, 1), (1, 3), (1, 5), (1, 7), (1, 8)]
  | 7 => [(1, 1), (0, 0), (0, 0), (0, 0), (0, 0)]
  | 8 => [(1, 17), (1, 48), (0, 0), (1, 3), (1, 4), (1, 7), (1, 16)]
  | 9 => [(1, 1), (1, 2), (1, 3), (0, 0), (1, 4), (1, 5), (1, 6), (1, 7), (1, 8), (1, 9), (1, 10), (1, 11), (0, 0), (0, 0), (0, 0), (0, 0), (0, 0), (1, 12), (0, 0), (1, 13), (1, 14), (0, 0), (0, 0)]
  | _ => []
-- what of the world is fixed: class numbers and slots, the cells' addresses, the texts' cells and bytes, the array classes, the tables' cells
abbrev Wc : Type := va_G × (Nat → Nat) × (Nat → Nat) × (Nat → Nat) × (Nat → ClassId) × (Nat → Nat)
abbrev dG (w : Wc) : va_G := w.1
abbrev ad (w : Wc) (k : Nat) : Nat := w.2.1 k
abbrev sK (w : Wc) (k : Nat) : Nat := w.2.2.1 k
abbrev sV (w : Wc) (k : Nat) : Nat := w.2.2.2.1 k
abbrev cA (w : Wc) (k : Nat) : ClassId := w.2.2.2.2.1 k
abbrev ka (w : Wc) (k : Nat) : Nat := w.2.2.2.2.2 k
abbrev sa (w : Wc) (x : Int32) : Nat := sK w (ix x)
def slV (w : Wc) (k : Nat) (q : Nat × Nat) (x : Int32) : Value := match q.1 with
  | 0 => .int x
  | 1 => .ref (ad w (k + q.2))
  | 2 => if x = 0 then .null else .ref (ad w q.2)
  | _ => .ref (sa w x)
def fsL (w : Wc) (σ : Sg) (k c : Nat) : List Value := (List.range (slt c).length).map (fun j => slV w k ((slt c).getD j (0, 0)) (σ k j))
def ent (S : Shp) (w : Wc) (σ : Sg) (k : Nat) : va_E :=
  if kd S k < 20 then .inr (kd S k - 1, fsL w σ k (kd S k))
  else if kd S k = 20 then .inl (cA w 0, ln S k, .inl (σ k))
  else .inl (cA w (kd S k - 20), ln S k, .inr (.inr (.inr (.inr (fun j => some (ad w (bs S k + sd S k * j)))))))
def wsL (S : Shp) (w : Wc) (σ : Sg) : va_W := (List.range S.length).map (fun k => (ad w k, ent S w σ k))
abbrev tys (w : Wc) : List (ClassId × FieldType) := [(cA w 0, .int), (cA w 1, .object "BagBottom$Thing"), (cA w 2, .object "BagBottom$Text"), (cA w 3, .object "BagBottom$Sheet")]
def FA (S : Shp) (w : Wc) : Nat → Prop := fun q => ∃ k, k < S.length ∧ q = ad w k
-- the two tables of the class, and its texts
def kaL : List Int32 := [-1, 0, 0, 0, 1, 2, 0]
def bdL : List Int32 := [10, 11, 12, 13, 20, 0, 0, 21, 0, 30, 0, 0, 0, 0, 40, 0, 50, 0, 51, 0, 0, 60, 0, 0, 70, 71, 0, 0]
abbrev kaF (j : Nat) : Int32 := kaL.getD j 0
abbrev bdF (j : Nat) : Int32 := bdL.getD j 0
def txL : List String := ["", "fdk", "nkm", "0123456789", "!(", "|", "&", "<=>", "+-", "*/%"]
def txB : List (List Int32) := [[], [102, 100, 107], [110, 107, 109], [48, 49, 50, 51, 52, 53, 54, 55, 56, 57], [33, 40], [124], [38], [60, 61, 62], [43, 45], [42, 47, 37]]
def txN : List Nat := [0, 3, 3, 10, 2, 1, 1, 3, 2, 3]
def St (A : Nat → Prop) (w : Wc) (U : State) (H : Heap) : Prop :=
  (va_Z "BagBottom" "KIND_ABOVE" "[I" (.ref (ka w 0)) A U H ∧ va_T .int (ka w 0) 7 (fun j => .int (kaF j)) A U H) ∧
  (va_Z "BagBottom$Voices" "BODIES" "[I" (.ref (ka w 1)) A U H ∧ va_T .int (ka w 1) 28 (fun j => .int (bdF j)) A U H) ∧
  va_Z "java/lang/String" "COMPACT_STRINGS" "Z" (.int 1) A U H ∧ vk_S 10 txN txB (sK w) (sV w) A U H
def GT : List Cond := lw_tbl.filter goodWord
def rm (d : Nat) : Room := { frames := d, cells := 0, slots := 0, locals := 40 * d }
def Inj (S : Shp) (w : Wc) : Prop := ∀ i j : Nat, i < S.length → j < S.length → ad w i = ad w j → i = j
def WP (S : Shp) (w : Wc) (σ : Sg) (U : State) : Prop := va_P (dG w) vwCl (wsL S w σ) U.heap ∧ va_K (dG w) vwCl (tys w) U ∧ St (FA S w) w U U.heap ∧ Inj S w
abbrev Gx : Type := Program × Launch × Env × Room × State × MethodId × Array Value × List Frame × Method × Code
abbrev gL (g : Gx) : Launch := g.2.1
def OK (S : Shp) (w : Wc) (g : Gx) (d : Nat) (cc : ByteArray) (own : String) (nL : Nat) (ret : Option FieldType) : Prop := match g with
  | (p, _, _, R, s, m, args, _, meth, c) => p.tables.exec = Jvm.exec ∧ c.code = cc ∧ c.maxLocals = nL ∧ s.vm.findClass own = some m.cls ∧ (∀ x ∈ GT, x.before args s = true) ∧ R = rm d ∧ va_K (dG w) vwCl (tys w) s ∧ meth.sig.returnType = ret ∧ meth.locks = false ∧ Inj S w ∧ St (FA S w) w s s.heap
def toL : Nat → List (Option Value) → List (Nat × Value)
  | _, [] => []
  | i, none :: t => toL (i + 1) t
  | i, some v :: t => (i, v) :: toL (i + 1) t
def X (S : Shp) (w : Wc) (g : Gx) (Q : State → Prop) (pc : Nat) (ls : List (Option Value)) (st : List Value) (σ : Sg) : Prop := match g with
  | (p, l, e, R, s, m, args, below, meth, c) => ∀ (H : Heap) (locs : List Loc) (lsA : Array Slot), va_P (dG w) vwCl (wsL S w σ) H → va_S (FA S w) s.heap H locs → lv_has lsA c.maxLocals (toL 0 ls) → W p l e R s m args below meth c H locs 0 0 Q (F0 m pc lsA st)
def QI (S : Shp) (w : Wc) (g : Gx) (P : Int32 → Sg → Prop) : State → Prop := match g with
  | (_, _, _, _, s, _, args, below, _, _) => MQ below (va_Qi P (fun σ t => WP S w σ t) (FA S w)) args s 0 0 (FA S w)
def QV (S : Shp) (w : Wc) (g : Gx) (P : Sg → Prop) : State → Prop := match g with
  | (_, _, _, _, s, _, args, below, _, _) => MQ below (va_Qv P (fun σ t => WP S w σ t) (FA S w)) args s 0 0 (FA S w)
def QR (S : Shp) (w : Wc) (g : Gx) (P : Int32 → Sg → Prop) : State → Prop := match g with
  | (_, _, _, _, s, _, args, below, _, _) => MQ below (va_Qr (fun u : Int32 × Sg => P u.1 u.2) (fun u a t => a = sa w u.1 ∧ WP S w u.2 t) (FA S w)) args s 0 0 (FA S w)
-- a method's contract over the matrix: it ends, with an answer and a matrix of which P holds
def CI (S : Shp) (w : Wc) (l : Launch) (d : Nat) (cd : Cond) (y : MethodName) (as : List Value) (σ : Sg) (P : Int32 → Sg → Prop) : Prop := Met l y (cd :: GT) (rm d) (va_Pc as (WP S w σ)) (va_Qi P (fun σ t => WP S w σ t) (FA S w)) 0 0 (FA S w)
def CV (S : Shp) (w : Wc) (l : Launch) (d : Nat) (cd : Cond) (y : MethodName) (as : List Value) (σ : Sg) (P : Sg → Prop) : Prop := Met l y (cd :: GT) (rm d) (va_Pc as (WP S w σ)) (va_Qv P (fun σ t => WP S w σ t) (FA S w)) 0 0 (FA S w)
def CR (S : Shp) (w : Wc) (l : Launch) (d : Nat) (cd : Cond) (y : MethodName) (as : List Value) (σ : Sg) (P : Int32 → Sg → Prop) : Prop := Met l y (cd :: GT) (rm d) (va_Pc as (WP S w σ)) (va_Qr (fun u : Int32 × Sg => P u.1 u.2) (fun u a t => a = sa w u.1 ∧ WP S w u.2 t) (FA S w)) 0 0 (FA S w)

theorem u2_same {σ : Sg} {k j : Nat} {v : Int32} : u2 σ k j v k j = v := by simp [u2]
theorem u2_ne {σ : Sg} {k j a b : Nat} {v : Int32} (h : ¬ (a = k ∧ b = j)) : u2 σ k j v a b = σ a b := by simp [u2, h]
theorem u2_row {σ : Sg} {k j : Nat} {v : Int32} : u2 σ k j v k = upd (σ k) j v := by
  funext b
  by_cases h : b = j <;> simp [u2, upd, h]
theorem u2_other {σ : Sg} {k j a : Nat} {v : Int32} (h : a ≠ k) : u2 σ k j v a = σ a := by
  funext b
  simp [u2, h]
theorem c2_row {σ : Sg} {k0 sp k1 dp n : Nat} : c2 σ k0 sp k1 dp n k1 = va_cpy (σ k0) (σ k1) sp dp n := by
  funext b; simp [c2]
theorem c2_other {σ : Sg} {k0 sp k1 dp n a : Nat} (h : a ≠ k1) : c2 σ k0 sp k1 dp n a = σ a := by
  funext b; simp [c2, h]
theorem kd_lt {S : Shp} {k c : Nat} (h : kd S k = c) (hc : 0 < c) : k < S.length := by
  rcases Nat.lt_or_ge k S.length with q | q
  · exact q
  · rw [kd, List.getD_eq_getElem?_getD, List.getElem?_eq_none q] at h
    simp at h
    omega
theorem wsL_at {S : Shp} {w : Wc} {σ : Sg} {k : Nat} (h : k < S.length) : (wsL S w σ)[k]? = some (ad w k, ent S w σ k) := by
  simp [wsL, h]
theorem wsL_of {S : Shp} {w : Wc} {σ : Sg} {k : Nat} {q : Nat × va_E} (h : (wsL S w σ)[k]? = some q) : k < S.length ∧ q = (ad w k, ent S w σ k) := by
  have hl : k < S.length := by
    have := (List.getElem?_eq_some_iff.mp h).1
    simpa [wsL] using this
  rw [wsL_at hl] at h
  exact ⟨hl, (Option.some.inj h).symm⟩
theorem ent_eq {S : Shp} {w : Wc} {σ τ : Sg} {k : Nat} (h : τ k = σ k) : ent S w τ k = ent S w σ k := by
  simp [ent, fsL, h]
theorem wsL_set {S : Shp} {w : Wc} {σ τ : Sg} {k : Nat} (h : ∀ a, a ≠ k → τ a = σ a) : (wsL S w σ).set k (ad w k, ent S w τ k) = wsL S w τ := by
  apply List.ext_getElem?
  intro i
  rw [List.getElem?_set]
  by_cases hi : k = i
  · subst hi
    by_cases hl : k < S.length
    · simp [wsL, hl]
    · simp [wsL, hl]
  · simp only [hi, if_false]
    by_cases hl : i < S.length
    · rw [wsL_at hl, wsL_at hl, ent_eq (h i (Ne.symm hi))]
    · simp [wsL, hl]
theorem wsL_D {S : Shp} {w : Wc} {σ : Sg} (h : Inj S w) : va_D (FA S w) (wsL S w σ) := by
  refine ⟨fun i j p q hi hj e => ?_, fun k q hk => ?_⟩
  · obtain ⟨h1, rfl⟩ := wsL_of hi
    obtain ⟨h2, rfl⟩ := wsL_of hj
    exact h i j h1 h2 e
  · obtain ⟨h1, rfl⟩ := wsL_of hk
    exact ⟨k, h1, rfl⟩
theorem ent_obj {S : Shp} {w : Wc} {σ : Sg} {k ci : Nat} (h : kd S k = ci + 1) (hc : ci < 19) : ent S w σ k = .inr (ci, fsL w σ k (ci + 1)) := by
  simp [ent, h, show ci + 1 < 20 by omega]
theorem ent_arr {S : Shp} {w : Wc} {σ : Sg} {k : Nat} (h : kd S k = 20) : ent S w σ k = .inl (cA w 0, ln S k, .inl (σ k)) := by
  simp [ent, h]
theorem ent_ref {S : Shp} {w : Wc} {σ : Sg} {k t : Nat} (h : kd S k = 20 + t) (ht : 0 < t) : ent S w σ k = .inl (cA w t, ln S k, .inr (.inr (.inr (.inr (fun j => some (ad w (bs S k + sd S k * j))))))) := by
  have h1 : ¬ kd S k < 20 := by omega
  have h2 : ¬ kd S k = 20 := by omega
  have h3 : kd S k - 20 = t := by omega
  simp only [ent, h1, h2, if_false, h3]
theorem St.moved {A : Nat → Prop} {w : Wc} {u U : State} {H : Heap} (hv : u.vm.Alike U.vm) (h : St A w u H) : St A w U H :=
  ⟨⟨h.1.1.moved hv, h.1.2.moved hv⟩, ⟨h.2.1.1.moved hv, h.2.1.2.moved hv⟩, h.2.2.1.moved hv, h.2.2.2.moved hv⟩
theorem St.kept {A : Nat → Prop} {w : Wc} {U : State} {H H1 : Heap} (h : St A w U H) (hq : ∀ a : Nat, a < H.size → ¬ A a → H1[a]? = H[a]?) : St A w U H1 :=
  ⟨⟨h.1.1.kept hq, h.1.2.kept hq⟩, ⟨h.2.1.1.kept hq, h.2.1.2.kept hq⟩, h.2.2.1.kept hq, h.2.2.2.kept hq⟩
theorem FA_D {S : Shp} {w : Wc} {q : Nat} {σ : Sg} {A : Nat → Prop} (h : FA S w q) (hD : va_D A (wsL S w σ)) : A q := by
  obtain ⟨k, hk, rfl⟩ := h
  exact hD.2 k _ (wsL_at hk)
theorem toL_mem {q : Nat × Value} : ∀ (ls : List (Option Value)) (i : Nat), q ∈ toL i ls ↔ ∃ j, ls[j]? = some (some q.2) ∧ q.1 = i + j := by
  intro ls
  induction ls with
  | nil => intro i; simp [toL]
  | cons a t ih =>
    intro i
    cases a with
    | none =>
      rw [toL, ih]
      constructor
      · rintro ⟨j, h1, h2⟩; exact ⟨j + 1, by simpa using h1, by omega⟩
      · rintro ⟨j, h1, h2⟩
        cases j with
        | zero => simp at h1
        | succ j => exact ⟨j, by simpa using h1, by omega⟩
    | some v =>
      rw [toL, List.mem_cons, ih]
      constructor
      · rintro (rfl | ⟨j, h1, h2⟩)
        · exact ⟨0, by simp, by simp⟩
        · exact ⟨j + 1, by simpa using h1, by omega⟩
      · rintro ⟨j, h1, h2⟩
        cases j with
        | zero =>
          left
          simp at h1
          obtain ⟨q1, q2⟩ := q
          simp at h1 h2
          rw [h1, h2]
        | succ j => exact Or.inr ⟨j, by simpa using h1, by omega⟩
theorem lv_l {lsA : Array Slot} {n k : Nat} {v : Value} {ls : List (Option Value)} (h : lv_has lsA n (toL 0 ls)) (hk : ls[k]? = some (some v)) : lsA[k]? = some (.val v) :=
  h.2.2 (k, v) ((toL_mem ls 0).mpr ⟨k, hk, by simp⟩)
def nl (v : Option Value) : Bool := match v with
  | some (.long _) => false
  | some (.double _) => false
  | _ => true
theorem nl_cat {v : Value} (h : nl (some v) = true) : v.category = 1 := by
  cases v <;> simp_all [nl, Value.category]
theorem lv_stL {lsA : Array Slot} {n k : Nat} {v : Value} {ls : List (Option Value)} (h : lv_has lsA n ((k, v) :: (toL 0 ls).filter (fun q => !(q.1 == k) && !(q.1 + 1 == k && q.2.category == 2)))) (hk : k < ls.length) (hp : ∀ j, j + 1 = k → ∀ a, ls[j]? = some a → nl a = true) : lv_has lsA n (toL 0 (ls.set k (some v))) := by
  refine ⟨h.1, h.2.1, fun q hq => h.2.2 q ?_⟩
  obtain ⟨j, h1, h2⟩ := (toL_mem _ 0).mp hq
  rw [List.getElem?_set] at h1
  by_cases hj : k = j
  · subst hj
    simp [hk] at h1
    obtain ⟨q1, q2⟩ := q
    simp at h1 h2
    rw [← h1, h2]
    exact List.mem_cons_self
  · rw [if_neg hj] at h1
    refine List.mem_cons_of_mem _ (List.mem_filter.mpr ⟨(toL_mem _ 0).mpr ⟨j, h1, h2⟩, ?_⟩)
    have e1 : q.1 = j := by omega
    rw [e1]
    by_cases e2 : j + 1 = k
    · have := nl_cat (hp j e2 _ h1)
      simp [this, Ne.symm hj]
    · simp [e2, Ne.symm hj]
end
