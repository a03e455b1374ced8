section
-- ===== PART A: goes FIRST, ahead of the names: the tables' words, and 'selects' of the private methods out of them =====
/-- a private method of a class that the tables say can be made, by its rows of tables_1 -/
def lw_okq (q : MethodName × Nat) : Prop := (q.1.cls ≠ "java/lang/invoke/MethodHandle" ∧ q.1.cls ≠ "java/lang/invoke/VarHandle") ∧ Cond.instantiable q.1.cls q.2 ∈ tables_1 ∧ Cond.privateMethod q.1 ∈ tables_1 ∧ Cond.instanceMethod q.1 ∈ tables_1
theorem lw_p0 : lw_okq (⟨"HauntSums", "harmOf", "(I)I"⟩, 10) := ⟨⟨by decide +kernel, by decide +kernel⟩, List.mem_of_getElem? (i := 15) (by decide +kernel), List.mem_of_getElem? (i := 506) (by decide +kernel), List.mem_of_getElem? (i := 507) (by decide +kernel)⟩
theorem lw_p1 : lw_okq (⟨"HauntSums", "walkFromNow", "(I)V"⟩, 10) := ⟨⟨by decide +kernel, by decide +kernel⟩, List.mem_of_getElem? (i := 15) (by decide +kernel), List.mem_of_getElem? (i := 510) (by decide +kernel), List.mem_of_getElem? (i := 511) (by decide +kernel)⟩
theorem lw_p2 : lw_okq (⟨"HauntSums", "harmByPlan", "(II)I"⟩, 10) := ⟨⟨by decide +kernel, by decide +kernel⟩, List.mem_of_getElem? (i := 15) (by decide +kernel), List.mem_of_getElem? (i := 564) (by decide +kernel), List.mem_of_getElem? (i := 565) (by decide +kernel)⟩
theorem lw_p3 : lw_okq (⟨"HauntSums", "deskByPlan", "(II)I"⟩, 10) := ⟨⟨by decide +kernel, by decide +kernel⟩, List.mem_of_getElem? (i := 15) (by decide +kernel), List.mem_of_getElem? (i := 568) (by decide +kernel), List.mem_of_getElem? (i := 569) (by decide +kernel)⟩
theorem lw_p4 : lw_okq (⟨"HauntSums", "harmWith", "(III)I"⟩, 10) := ⟨⟨by decide +kernel, by decide +kernel⟩, List.mem_of_getElem? (i := 15) (by decide +kernel), List.mem_of_getElem? (i := 584) (by decide +kernel), List.mem_of_getElem? (i := 585) (by decide +kernel)⟩
theorem lw_p5 : lw_okq (⟨"HauntSums", "goWithout", "(II)V"⟩, 10) := ⟨⟨by decide +kernel, by decide +kernel⟩, List.mem_of_getElem? (i := 15) (by decide +kernel), List.mem_of_getElem? (i := 598) (by decide +kernel), List.mem_of_getElem? (i := 599) (by decide +kernel)⟩
theorem lw_p6 : lw_okq (⟨"HauntSums", "weight", "(II)I"⟩, 10) := ⟨⟨by decide +kernel, by decide +kernel⟩, List.mem_of_getElem? (i := 15) (by decide +kernel), List.mem_of_getElem? (i := 602) (by decide +kernel), List.mem_of_getElem? (i := 603) (by decide +kernel)⟩
theorem lw_p7 : lw_okq (⟨"HauntSums", "isAsSeen", "(III)Z"⟩, 10) := ⟨⟨by decide +kernel, by decide +kernel⟩, List.mem_of_getElem? (i := 15) (by decide +kernel), List.mem_of_getElem? (i := 628) (by decide +kernel), List.mem_of_getElem? (i := 629) (by decide +kernel)⟩
theorem lw_p8 : lw_okq (⟨"HauntSums", "tallyRooms", "(I)I"⟩, 10) := ⟨⟨by decide +kernel, by decide +kernel⟩, List.mem_of_getElem? (i := 15) (by decide +kernel), List.mem_of_getElem? (i := 648) (by decide +kernel), List.mem_of_getElem? (i := 649) (by decide +kernel)⟩
theorem lw_p9 : lw_okq (⟨"HauntSums", "tallyTrail", "(II)V"⟩, 10) := ⟨⟨by decide +kernel, by decide +kernel⟩, List.mem_of_getElem? (i := 15) (by decide +kernel), List.mem_of_getElem? (i := 652) (by decide +kernel), List.mem_of_getElem? (i := 653) (by decide +kernel)⟩
theorem lw_p10 : lw_okq (⟨"HauntSums", "worstBehind", "(I)I"⟩, 10) := ⟨⟨by decide +kernel, by decide +kernel⟩, List.mem_of_getElem? (i := 15) (by decide +kernel), List.mem_of_getElem? (i := 656) (by decide +kernel), List.mem_of_getElem? (i := 657) (by decide +kernel)⟩
theorem lw_p11 : lw_okq (⟨"HauntSumsModel", "firstDraft", "()V"⟩, 29) := ⟨⟨by decide +kernel, by decide +kernel⟩, List.mem_of_getElem? (i := 733) (by decide +kernel), List.mem_of_getElem? (i := 739) (by decide +kernel), List.mem_of_getElem? (i := 740) (by decide +kernel)⟩
theorem lw_p12 : lw_okq (⟨"HauntSumsModel", "keepDraft", "()V"⟩, 29) := ⟨⟨by decide +kernel, by decide +kernel⟩, List.mem_of_getElem? (i := 733) (by decide +kernel), List.mem_of_getElem? (i := 743) (by decide +kernel), List.mem_of_getElem? (i := 744) (by decide +kernel)⟩
theorem lw_p13 : lw_okq (⟨"HauntSumsModel", "takes", "()V"⟩, 29) := ⟨⟨by decide +kernel, by decide +kernel⟩, List.mem_of_getElem? (i := 733) (by decide +kernel), List.mem_of_getElem? (i := 851) (by decide +kernel), List.mem_of_getElem? (i := 852) (by decide +kernel)⟩
theorem lw_p14 : lw_okq (⟨"HauntSumsModel", "byteAt", "(I)I"⟩, 29) := ⟨⟨by decide +kernel, by decide +kernel⟩, List.mem_of_getElem? (i := 733) (by decide +kernel), List.mem_of_getElem? (i := 855) (by decide +kernel), List.mem_of_getElem? (i := 856) (by decide +kernel)⟩
theorem lw_p15 : lw_okq (⟨"HauntSumsModel", "needs", "(ZI)V"⟩, 29) := ⟨⟨by decide +kernel, by decide +kernel⟩, List.mem_of_getElem? (i := 733) (by decide +kernel), List.mem_of_getElem? (i := 863) (by decide +kernel), List.mem_of_getElem? (i := 864) (by decide +kernel)⟩
def lw_privs_1 : List (MethodName × Nat) := [(⟨"HauntSums", "harmOf", "(I)I"⟩, 10), (⟨"HauntSums", "walkFromNow", "(I)V"⟩, 10), (⟨"HauntSums", "harmByPlan", "(II)I"⟩, 10), (⟨"HauntSums", "deskByPlan", "(II)I"⟩, 10), (⟨"HauntSums", "harmWith", "(III)I"⟩, 10), (⟨"HauntSums", "goWithout", "(II)V"⟩, 10), (⟨"HauntSums", "weight", "(II)I"⟩, 10), (⟨"HauntSums", "isAsSeen", "(III)Z"⟩, 10), (⟨"HauntSums", "tallyRooms", "(I)I"⟩, 10), (⟨"HauntSums", "tallyTrail", "(II)V"⟩, 10), (⟨"HauntSums", "worstBehind", "(I)I"⟩, 10), (⟨"HauntSumsModel", "firstDraft", "()V"⟩, 29), (⟨"HauntSumsModel", "keepDraft", "()V"⟩, 29), (⟨"HauntSumsModel", "takes", "()V"⟩, 29), (⟨"HauntSumsModel", "byteAt", "(I)I"⟩, 29), (⟨"HauntSumsModel", "needs", "(ZI)V"⟩, 29)]
theorem lw_r1 : ∀ q ∈ lw_privs_1, lw_okq q := List.forall_mem_cons.mpr ⟨lw_p0, List.forall_mem_cons.mpr ⟨lw_p1, List.forall_mem_cons.mpr ⟨lw_p2, List.forall_mem_cons.mpr ⟨lw_p3, List.forall_mem_cons.mpr ⟨lw_p4, List.forall_mem_cons.mpr ⟨lw_p5, List.forall_mem_cons.mpr ⟨lw_p6, List.forall_mem_cons.mpr ⟨lw_p7, List.forall_mem_cons.mpr ⟨lw_p8, List.forall_mem_cons.mpr ⟨lw_p9, List.forall_mem_cons.mpr ⟨lw_p10, List.forall_mem_cons.mpr ⟨lw_p11, List.forall_mem_cons.mpr ⟨lw_p12, List.forall_mem_cons.mpr ⟨lw_p13, List.forall_mem_cons.mpr ⟨lw_p14, List.forall_mem_cons.mpr ⟨lw_p15, fun _ h => absurd h List.not_mem_nil⟩⟩⟩⟩⟩⟩⟩⟩⟩⟩⟩⟩⟩⟩⟩⟩
theorem lw_p16 : lw_okq (⟨"HauntSumsModel", "readLine", "()V"⟩, 29) := ⟨⟨by decide +kernel, by decide +kernel⟩, List.mem_of_getElem? (i := 733) (by decide +kernel), List.mem_of_getElem? (i := 867) (by decide +kernel), List.mem_of_getElem? (i := 868) (by decide +kernel)⟩
theorem lw_p17 : lw_okq (⟨"HauntSumsModel", "lineNow", "()I"⟩, 29) := ⟨⟨by decide +kernel, by decide +kernel⟩, List.mem_of_getElem? (i := 733) (by decide +kernel), List.mem_of_getElem? (i := 871) (by decide +kernel), List.mem_of_getElem? (i := 872) (by decide +kernel)⟩
theorem lw_p18 : lw_okq (⟨"HauntSumsModel", "is", "(IIIIII)Z"⟩, 29) := ⟨⟨by decide +kernel, by decide +kernel⟩, List.mem_of_getElem? (i := 733) (by decide +kernel), List.mem_of_getElem? (i := 875) (by decide +kernel), List.mem_of_getElem? (i := 876) (by decide +kernel)⟩
theorem lw_p19 : lw_okq (⟨"HauntSumsModel", "readLineOf", "(I)V"⟩, 29) := ⟨⟨by decide +kernel, by decide +kernel⟩, List.mem_of_getElem? (i := 733) (by decide +kernel), List.mem_of_getElem? (i := 879) (by decide +kernel), List.mem_of_getElem? (i := 880) (by decide +kernel)⟩
theorem lw_p20 : lw_okq (⟨"HauntSumsModel", "readDone", "()V"⟩, 29) := ⟨⟨by decide +kernel, by decide +kernel⟩, List.mem_of_getElem? (i := 733) (by decide +kernel), List.mem_of_getElem? (i := 883) (by decide +kernel), List.mem_of_getElem? (i := 884) (by decide +kernel)⟩
theorem lw_p21 : lw_okq (⟨"HauntSumsModel", "looked", "(II)I"⟩, 29) := ⟨⟨by decide +kernel, by decide +kernel⟩, List.mem_of_getElem? (i := 733) (by decide +kernel), List.mem_of_getElem? (i := 887) (by decide +kernel), List.mem_of_getElem? (i := 888) (by decide +kernel)⟩
theorem lw_p22 : lw_okq (⟨"HauntSumsModel", "readNumber", "(II)I"⟩, 29) := ⟨⟨by decide +kernel, by decide +kernel⟩, List.mem_of_getElem? (i := 733) (by decide +kernel), List.mem_of_getElem? (i := 891) (by decide +kernel), List.mem_of_getElem? (i := 892) (by decide +kernel)⟩
theorem lw_p23 : lw_okq (⟨"HauntSumsModel", "starts", "()V"⟩, 29) := ⟨⟨by decide +kernel, by decide +kernel⟩, List.mem_of_getElem? (i := 733) (by decide +kernel), List.mem_of_getElem? (i := 903) (by decide +kernel), List.mem_of_getElem? (i := 904) (by decide +kernel)⟩
theorem lw_p24 : lw_okq (⟨"HauntSumsModel", "creaks", "(I)I"⟩, 29) := ⟨⟨by decide +kernel, by decide +kernel⟩, List.mem_of_getElem? (i := 733) (by decide +kernel), List.mem_of_getElem? (i := 907) (by decide +kernel), List.mem_of_getElem? (i := 908) (by decide +kernel)⟩
theorem lw_p25 : lw_okq (⟨"HauntSumsModel", "of", "(II)I"⟩, 29) := ⟨⟨by decide +kernel, by decide +kernel⟩, List.mem_of_getElem? (i := 733) (by decide +kernel), List.mem_of_getElem? (i := 911) (by decide +kernel), List.mem_of_getElem? (i := 912) (by decide +kernel)⟩
theorem lw_p26 : lw_okq (⟨"HauntSumsModel", "answer", "(I)I"⟩, 29) := ⟨⟨by decide +kernel, by decide +kernel⟩, List.mem_of_getElem? (i := 733) (by decide +kernel), List.mem_of_getElem? (i := 921) (by decide +kernel), List.mem_of_getElem? (i := 922) (by decide +kernel)⟩
theorem lw_p27 : lw_okq (⟨"HauntSumsModel", "resting", "()I"⟩, 29) := ⟨⟨by decide +kernel, by decide +kernel⟩, List.mem_of_getElem? (i := 733) (by decide +kernel), List.mem_of_getElem? (i := 925) (by decide +kernel), List.mem_of_getElem? (i := 926) (by decide +kernel)⟩
theorem lw_p28 : lw_okq (⟨"HauntSumsModel", "left", "(I)I"⟩, 29) := ⟨⟨by decide +kernel, by decide +kernel⟩, List.mem_of_getElem? (i := 733) (by decide +kernel), List.mem_of_getElem? (i := 929) (by decide +kernel), List.mem_of_getElem? (i := 930) (by decide +kernel)⟩
theorem lw_p29 : lw_okq (⟨"HauntSumsModel", "steps", "(I)I"⟩, 29) := ⟨⟨by decide +kernel, by decide +kernel⟩, List.mem_of_getElem? (i := 733) (by decide +kernel), List.mem_of_getElem? (i := 933) (by decide +kernel), List.mem_of_getElem? (i := 934) (by decide +kernel)⟩
theorem lw_p30 : lw_okq (⟨"HauntSumsModel", "allLeft", "()I"⟩, 29) := ⟨⟨by decide +kernel, by decide +kernel⟩, List.mem_of_getElem? (i := 733) (by decide +kernel), List.mem_of_getElem? (i := 937) (by decide +kernel), List.mem_of_getElem? (i := 938) (by decide +kernel)⟩
theorem lw_p31 : lw_okq (⟨"HauntSumsModel", "isGhost", "(I)Z"⟩, 29) := ⟨⟨by decide +kernel, by decide +kernel⟩, List.mem_of_getElem? (i := 733) (by decide +kernel), List.mem_of_getElem? (i := 945) (by decide +kernel), List.mem_of_getElem? (i := 946) (by decide +kernel)⟩
def lw_privs_2 : List (MethodName × Nat) := [(⟨"HauntSumsModel", "readLine", "()V"⟩, 29), (⟨"HauntSumsModel", "lineNow", "()I"⟩, 29), (⟨"HauntSumsModel", "is", "(IIIIII)Z"⟩, 29), (⟨"HauntSumsModel", "readLineOf", "(I)V"⟩, 29), (⟨"HauntSumsModel", "readDone", "()V"⟩, 29), (⟨"HauntSumsModel", "looked", "(II)I"⟩, 29), (⟨"HauntSumsModel", "readNumber", "(II)I"⟩, 29), (⟨"HauntSumsModel", "starts", "()V"⟩, 29), (⟨"HauntSumsModel", "creaks", "(I)I"⟩, 29), (⟨"HauntSumsModel", "of", "(II)I"⟩, 29), (⟨"HauntSumsModel", "answer", "(I)I"⟩, 29), (⟨"HauntSumsModel", "resting", "()I"⟩, 29), (⟨"HauntSumsModel", "left", "(I)I"⟩, 29), (⟨"HauntSumsModel", "steps", "(I)I"⟩, 29), (⟨"HauntSumsModel", "allLeft", "()I"⟩, 29), (⟨"HauntSumsModel", "isGhost", "(I)Z"⟩, 29)]
theorem lw_r2 : ∀ q ∈ lw_privs_2, lw_okq q := List.forall_mem_cons.mpr ⟨lw_p16, List.forall_mem_cons.mpr ⟨lw_p17, List.forall_mem_cons.mpr ⟨lw_p18, List.forall_mem_cons.mpr ⟨lw_p19, List.forall_mem_cons.mpr ⟨lw_p20, List.forall_mem_cons.mpr ⟨lw_p21, List.forall_mem_cons.mpr ⟨lw_p22, List.forall_mem_cons.mpr ⟨lw_p23, List.forall_mem_cons.mpr ⟨lw_p24, List.forall_mem_cons.mpr ⟨lw_p25, List.forall_mem_cons.mpr ⟨lw_p26, List.forall_mem_cons.mpr ⟨lw_p27, List.forall_mem_cons.mpr ⟨lw_p28, List.forall_mem_cons.mpr ⟨lw_p29, List.forall_mem_cons.mpr ⟨lw_p30, List.forall_mem_cons.mpr ⟨lw_p31, fun _ h => absurd h List.not_mem_nil⟩⟩⟩⟩⟩⟩⟩⟩⟩⟩⟩⟩⟩⟩⟩⟩
theorem lw_p32 : lw_okq (⟨"HauntSumsModel", "isClerk", "(I)Z"⟩, 29) := ⟨⟨by decide +kernel, by decide +kernel⟩, List.mem_of_getElem? (i := 733) (by decide +kernel), List.mem_of_getElem? (i := 953) (by decide +kernel), List.mem_of_getElem? (i := 954) (by decide +kernel)⟩
theorem lw_p33 : lw_okq (⟨"HauntSumsModel", "becomes", "(II)I"⟩, 29) := ⟨⟨by decide +kernel, by decide +kernel⟩, List.mem_of_getElem? (i := 733) (by decide +kernel), List.mem_of_getElem? (i := 971) (by decide +kernel), List.mem_of_getElem? (i := 972) (by decide +kernel)⟩
theorem lw_p34 : lw_okq (⟨"HauntSumsModel", "harmOf", "(I)I"⟩, 29) := ⟨⟨by decide +kernel, by decide +kernel⟩, List.mem_of_getElem? (i := 733) (by decide +kernel), List.mem_of_getElem? (i := 988) (by decide +kernel), List.mem_of_getElem? (i := 989) (by decide +kernel)⟩
theorem lw_p35 : lw_okq (⟨"HauntSumsModel", "nightGoes", "()V"⟩, 29) := ⟨⟨by decide +kernel, by decide +kernel⟩, List.mem_of_getElem? (i := 733) (by decide +kernel), List.mem_of_getElem? (i := 992) (by decide +kernel), List.mem_of_getElem? (i := 993) (by decide +kernel)⟩
theorem lw_p36 : lw_okq (⟨"HauntSumsModel", "firstIn", "(I)I"⟩, 29) := ⟨⟨by decide +kernel, by decide +kernel⟩, List.mem_of_getElem? (i := 733) (by decide +kernel), List.mem_of_getElem? (i := 996) (by decide +kernel), List.mem_of_getElem? (i := 997) (by decide +kernel)⟩
theorem lw_p37 : lw_okq (⟨"HauntSumsModel", "becomesOf", "(III)V"⟩, 29) := ⟨⟨by decide +kernel, by decide +kernel⟩, List.mem_of_getElem? (i := 733) (by decide +kernel), List.mem_of_getElem? (i := 1003) (by decide +kernel), List.mem_of_getElem? (i := 1004) (by decide +kernel)⟩
theorem lw_p38 : lw_okq (⟨"HauntSumsModel", "allHarm", "()I"⟩, 29) := ⟨⟨by decide +kernel, by decide +kernel⟩, List.mem_of_getElem? (i := 733) (by decide +kernel), List.mem_of_getElem? (i := 1007) (by decide +kernel), List.mem_of_getElem? (i := 1008) (by decide +kernel)⟩
theorem lw_p39 : lw_okq (⟨"HauntSumsModel", "settles", "()V"⟩, 29) := ⟨⟨by decide +kernel, by decide +kernel⟩, List.mem_of_getElem? (i := 733) (by decide +kernel), List.mem_of_getElem? (i := 1011) (by decide +kernel), List.mem_of_getElem? (i := 1012) (by decide +kernel)⟩
theorem lw_p40 : lw_okq (⟨"HauntSumsModel", "nightsTo", "(I)I"⟩, 29) := ⟨⟨by decide +kernel, by decide +kernel⟩, List.mem_of_getElem? (i := 733) (by decide +kernel), List.mem_of_getElem? (i := 1031) (by decide +kernel), List.mem_of_getElem? (i := 1032) (by decide +kernel)⟩
theorem lw_p41 : lw_okq (⟨"HauntSumsModel", "postsBy", "(I)V"⟩, 29) := ⟨⟨by decide +kernel, by decide +kernel⟩, List.mem_of_getElem? (i := 733) (by decide +kernel), List.mem_of_getElem? (i := 1051) (by decide +kernel), List.mem_of_getElem? (i := 1052) (by decide +kernel)⟩
theorem lw_p42 : lw_okq (⟨"HauntSumsModel", "findOdds", "(III)V"⟩, 29) := ⟨⟨by decide +kernel, by decide +kernel⟩, List.mem_of_getElem? (i := 733) (by decide +kernel), List.mem_of_getElem? (i := 1077) (by decide +kernel), List.mem_of_getElem? (i := 1078) (by decide +kernel)⟩
theorem lw_p43 : lw_okq (⟨"HauntSumsModel", "isSoWith", "(III)Z"⟩, 29) := ⟨⟨by decide +kernel, by decide +kernel⟩, List.mem_of_getElem? (i := 733) (by decide +kernel), List.mem_of_getElem? (i := 1103) (by decide +kernel), List.mem_of_getElem? (i := 1104) (by decide +kernel)⟩
theorem lw_p44 : lw_okq (⟨"HauntSumsModel", "copies", "(II)V"⟩, 29) := ⟨⟨by decide +kernel, by decide +kernel⟩, List.mem_of_getElem? (i := 733) (by decide +kernel), List.mem_of_getElem? (i := 1125) (by decide +kernel), List.mem_of_getElem? (i := 1126) (by decide +kernel)⟩
def lw_privs_3 : List (MethodName × Nat) := [(⟨"HauntSumsModel", "isClerk", "(I)Z"⟩, 29), (⟨"HauntSumsModel", "becomes", "(II)I"⟩, 29), (⟨"HauntSumsModel", "harmOf", "(I)I"⟩, 29), (⟨"HauntSumsModel", "nightGoes", "()V"⟩, 29), (⟨"HauntSumsModel", "firstIn", "(I)I"⟩, 29), (⟨"HauntSumsModel", "becomesOf", "(III)V"⟩, 29), (⟨"HauntSumsModel", "allHarm", "()I"⟩, 29), (⟨"HauntSumsModel", "settles", "()V"⟩, 29), (⟨"HauntSumsModel", "nightsTo", "(I)I"⟩, 29), (⟨"HauntSumsModel", "postsBy", "(I)V"⟩, 29), (⟨"HauntSumsModel", "findOdds", "(III)V"⟩, 29), (⟨"HauntSumsModel", "isSoWith", "(III)Z"⟩, 29), (⟨"HauntSumsModel", "copies", "(II)V"⟩, 29)]
theorem lw_r3 : ∀ q ∈ lw_privs_3, lw_okq q := List.forall_mem_cons.mpr ⟨lw_p32, List.forall_mem_cons.mpr ⟨lw_p33, List.forall_mem_cons.mpr ⟨lw_p34, List.forall_mem_cons.mpr ⟨lw_p35, List.forall_mem_cons.mpr ⟨lw_p36, List.forall_mem_cons.mpr ⟨lw_p37, List.forall_mem_cons.mpr ⟨lw_p38, List.forall_mem_cons.mpr ⟨lw_p39, List.forall_mem_cons.mpr ⟨lw_p40, List.forall_mem_cons.mpr ⟨lw_p41, List.forall_mem_cons.mpr ⟨lw_p42, List.forall_mem_cons.mpr ⟨lw_p43, List.forall_mem_cons.mpr ⟨lw_p44, fun _ h => absurd h List.not_mem_nil⟩⟩⟩⟩⟩⟩⟩⟩⟩⟩⟩⟩⟩
def lw_privs : List (MethodName × Nat) := lw_privs_1 ++ (lw_privs_2 ++ (lw_privs_3))
def lw_tbl : List Cond := k2_sels lw_privs ++ tables_1
theorem lw_privs_ok : ∀ q ∈ lw_privs, lw_okq q := by
  show ∀ q ∈ lw_privs_1 ++ (lw_privs_2 ++ (lw_privs_3)), lw_okq q
  exact List.forall_mem_append.mpr ⟨lw_r1, List.forall_mem_append.mpr ⟨lw_r2, lw_r3⟩⟩
end
section
def RX0 : String := "HauntSums$Reader"
def TX0 : u_T := fun k => match k with
  | 0 => ("HauntSums$Reader", "tape", "LHauntSums$Tape;", true)
  | 1 => ("HauntSums$Reader", "draft", "LHauntSums$Town;", true)
  | 2 => ("HauntSums$Reader", "doneTold", "[I", true)
  | 3 => ("HauntSums$Reader", "place", "I", false)
  | 4 => ("HauntSums$Reader", "token", "I", false)
  | 5 => ("HauntSums$Reader", "start", "I", false)
  | 6 => ("HauntSums$Reader", "number", "I", false)
  | 7 => ("HauntSums$Reader", "found", "I", false)
  | _ => ("HauntSums$Reader", "foundAt", "I", false)
def tyX0 : Nat → FieldType := fun k => match k with
  | 0 => .object "HauntSums$Tape"
  | 1 => .object "HauntSums$Town"
  | 2 => .array .int
  | 3 => .int
  | 4 => .int
  | 5 => .int
  | 6 => .int
  | 7 => .int
  | _ => .int
theorem nmX0 : ∀ a, a < 9 → ∀ b, b < 9 → a ≠ b → (TX0 a).2.1 ≠ (TX0 b).2.1 := by decide +kernel
theorem tyX0_ok : ∀ k, k < 9 → parseFieldDescriptor (TX0 k).2.2.1 = some (tyX0 k) := by decide +kernel
def RX1 : String := "HauntSums$Sheets"
def TX1 : u_T := fun k => match k with
  | 0 => ("HauntSums$Sheets", "lane", "[I", true)
  | 1 => ("HauntSums$Sheets", "length", "[I", true)
  | _ => ("HauntSums$Sheets", "cells", "[I", true)
def tyX1 : Nat → FieldType := fun k => match k with
  | 0 => .array .int
  | 1 => .array .int
  | _ => .array .int
theorem nmX1 : ∀ a, a < 3 → ∀ b, b < 3 → a ≠ b → (TX1 a).2.1 ≠ (TX1 b).2.1 := by decide +kernel
theorem tyX1_ok : ∀ k, k < 3 → parseFieldDescriptor (TX1 k).2.2.1 = some (tyX1 k) := by decide +kernel
def RX2 : String := "HauntSums$Tape"
def TX2 : u_T := fun k => match k with
  | 0 => ("HauntSums$Tape", "bytes", "[I", true)
  | _ => ("HauntSums$Tape", "length", "I", false)
def tyX2 : Nat → FieldType := fun k => match k with
  | 0 => .array .int
  | _ => .int
theorem nmX2 : ∀ a, a < 2 → ∀ b, b < 2 → a ≠ b → (TX2 a).2.1 ≠ (TX2 b).2.1 := by decide +kernel
theorem tyX2_ok : ∀ k, k < 2 → parseFieldDescriptor (TX2 k).2.2.1 = some (tyX2 k) := by decide +kernel
def RX3 : String := "HauntSums$Town"
def TX3 : u_T := fun k => match k with
  | 0 => ("HauntSums$Town", "ghosts", "I", false)
  | 1 => ("HauntSums$Town", "kind", "[I", true)
  | 2 => ("HauntSums$Town", "a", "[I", true)
  | 3 => ("HauntSums$Town", "b", "[I", true)
  | 4 => ("HauntSums$Town", "room", "[I", true)
  | 5 => ("HauntSums$Town", "done", "[I", true)
  | 6 => ("HauntSums$Town", "clerks", "I", false)
  | 7 => ("HauntSums$Town", "desk", "[I", true)
  | 8 => ("HauntSums$Town", "skill", "[I", true)
  | 9 => ("HauntSums$Town", "night", "I", false)
  | 10 => ("HauntSums$Town", "seen", "I", false)
  | 11 => ("HauntSums$Town", "seenGhost", "[I", true)
  | 12 => ("HauntSums$Town", "seenBehind", "[I", true)
  | _ => ("HauntSums$Town", "seenRoom", "[I", true)
def tyX3 : Nat → FieldType := fun k => match k with
  | 0 => .int
  | 1 => .array .int
  | 2 => .array .int
  | 3 => .array .int
  | 4 => .array .int
  | 5 => .array .int
  | 6 => .int
  | 7 => .array .int
  | 8 => .array .int
  | 9 => .int
  | 10 => .int
  | 11 => .array .int
  | 12 => .array .int
  | _ => .array .int
theorem nmX3 : ∀ a, a < 14 → ∀ b, b < 14 → a ≠ b → (TX3 a).2.1 ≠ (TX3 b).2.1 := by decide +kernel
theorem tyX3_ok : ∀ k, k < 14 → parseFieldDescriptor (TX3 k).2.2.1 = some (tyX3 k) := by decide +kernel
def RX4 : String := "HauntSums$Walk"
def TX4 : u_T := fun k => match k with
  | 0 => ("HauntSums$Walk", "ghosts", "I", false)
  | 1 => ("HauntSums$Walk", "room", "[I", true)
  | 2 => ("HauntSums$Walk", "left", "[I", true)
  | 3 => ("HauntSums$Walk", "pace", "[I", true)
  | 4 => ("HauntSums$Walk", "clerks", "I", false)
  | 5 => ("HauntSums$Walk", "desk", "[I", true)
  | 6 => ("HauntSums$Walk", "skill", "[I", true)
  | 7 => ("HauntSums$Walk", "harmDone", "I", false)
  | _ => ("HauntSums$Walk", "harmIn", "[I", true)
def tyX4 : Nat → FieldType := fun k => match k with
  | 0 => .int
  | 1 => .array .int
  | 2 => .array .int
  | 3 => .array .int
  | 4 => .int
  | 5 => .array .int
  | 6 => .array .int
  | 7 => .int
  | _ => .array .int
theorem nmX4 : ∀ a, a < 9 → ∀ b, b < 9 → a ≠ b → (TX4 a).2.1 ≠ (TX4 b).2.1 := by decide +kernel
theorem tyX4_ok : ∀ k, k < 9 → parseFieldDescriptor (TX4 k).2.2.1 = some (tyX4 k) := by decide +kernel
def RX5 : String := "HauntSums"
def TX5 : u_T := fun k => match k with
  | 0 => ("HauntSums", "walk", "LHauntSums$Walk;", true)
  | 1 => ("HauntSums", "now", "LHauntSums$Town;", true)
  | 2 => ("HauntSums", "tape", "LHauntSums$Tape;", true)
  | 3 => ("HauntSums", "reader", "LHauntSums$Reader;", true)
  | 4 => ("HauntSums", "images", "[LHauntSums$Town;", true)
  | 5 => ("HauntSums", "imageIs", "[Z", true)
  | 6 => ("HauntSums", "sheets", "LHauntSums$Sheets;", true)
  | 7 => ("HauntSums", "tally", "[I", true)
  | 8 => ("HauntSums", "textFault", "I", false)
  | _ => ("HauntSums", "readFault", "I", false)
def tyX5 : Nat → FieldType := fun k => match k with
  | 0 => .object "HauntSums$Walk"
  | 1 => .object "HauntSums$Town"
  | 2 => .object "HauntSums$Tape"
  | 3 => .object "HauntSums$Reader"
  | 4 => .array (.object "HauntSums$Town")
  | 5 => .array .boolean
  | 6 => .object "HauntSums$Sheets"
  | 7 => .array .int
  | 8 => .int
  | _ => .int
theorem nmX5 : ∀ a, a < 10 → ∀ b, b < 10 → a ≠ b → (TX5 a).2.1 ≠ (TX5 b).2.1 := by decide +kernel
theorem tyX5_ok : ∀ k, k < 10 → parseFieldDescriptor (TX5 k).2.2.1 = some (tyX5 k) := by decide +kernel
def RX6 : String := "HauntSumsModel"
def TX6 : u_T := fun k => match k with
  | 0 => ("HauntSumsModel", "st", "[I", true)
  | 1 => ("HauntSumsModel", "now", "[I", true)
  | 2 => ("HauntSumsModel", "isKept", "[Z", true)
  | 3 => ("HauntSumsModel", "clerks", "I", false)
  | 4 => ("HauntSumsModel", "draft", "[I", true)
  | 5 => ("HauntSumsModel", "dClerks", "I", false)
  | 6 => ("HauntSumsModel", "toldDone", "I", false)
  | 7 => ("HauntSumsModel", "doneOf", "[I", true)
  | 8 => ("HauntSumsModel", "highest", "I", false)
  | 9 => ("HauntSumsModel", "tape", "[I", true)
  | 10 => ("HauntSumsModel", "taped", "I", false)
  | 11 => ("HauntSumsModel", "pos", "I", false)
  | 12 => ("HauntSumsModel", "begun", "I", false)
  | 13 => ("HauntSumsModel", "sort", "I", false)
  | 14 => ("HauntSumsModel", "value", "I", false)
  | 15 => ("HauntSumsModel", "fault", "I", false)
  | 16 => ("HauntSumsModel", "wrongAt", "I", false)
  | 17 => ("HauntSumsModel", "ill", "I", false)
  | 18 => ("HauntSumsModel", "harmIn", "[I", true)
  | 19 => ("HauntSumsModel", "restSum", "J", false)
  | 20 => ("HauntSumsModel", "harmSum", "J", false)
  | 21 => ("HauntSumsModel", "allWays", "J", false)
  | 22 => ("HauntSumsModel", "walked", "[I", true)
  | 23 => ("HauntSumsModel", "ways", "[I", true)
  | 24 => ("HauntSumsModel", "lanes", "[I", true)
  | 25 => ("HauntSumsModel", "sizes", "[I", true)
  | 26 => ("HauntSumsModel", "cells", "[I", true)
  | 27 => ("HauntSumsModel", "torn", "I", false)
  | _ => ("HauntSumsModel", "before", "[I", true)
def tyX6 : Nat → FieldType := fun k => match k with
  | 0 => .array .int
  | 1 => .array .int
  | 2 => .array .boolean
  | 3 => .int
  | 4 => .array .int
  | 5 => .int
  | 6 => .int
  | 7 => .array .int
  | 8 => .int
  | 9 => .array .int
  | 10 => .int
  | 11 => .int
  | 12 => .int
  | 13 => .int
  | 14 => .int
  | 15 => .int
  | 16 => .int
  | 17 => .int
  | 18 => .array .int
  | 19 => .long
  | 20 => .long
  | 21 => .long
  | 22 => .array .int
  | 23 => .array .int
  | 24 => .array .int
  | 25 => .array .int
  | 26 => .array .int
  | 27 => .int
  | _ => .array .int
theorem nmX6 : ∀ a, a < 29 → ∀ b, b < 29 → a ≠ b → (TX6 a).2.1 ≠ (TX6 b).2.1 := by decide +kernel
theorem tyX6_ok : ∀ k, k < 29 → parseFieldDescriptor (TX6 k).2.2.1 = some (tyX6 k) := by decide +kernel
abbrev vwCl : List vw_C := [(RX0, TX0, 9), (RX1, TX1, 3), (RX2, TX2, 2), (RX3, TX3, 14), (RX4, TX4, 9), (RX5, TX5, 10), (RX6, TX6, 29)]
def hs_U : List Cond := lw_tbl.filter goodWord
theorem hs_in {w : Cond} (i : Nat) (h : lw_tbl[i]? = some w) (g : goodWord w = true) : w ∈ hs_U := List.mem_filter.mpr ⟨List.mem_of_getElem? h, g⟩
theorem hs_good : ∀ w ∈ hs_U, (w.onTables && w.keeps) = true ∨ ∃ ty, w = .arrayClass ty := fun w h => good_of_word (List.mem_filter.mp h).2
theorem inX0 : ∀ w ∈ u_ws RX0 TX0 9, w ∈ hs_U := by decide +kernel
theorem inX1 : ∀ w ∈ u_ws RX1 TX1 3, w ∈ hs_U := by decide +kernel
theorem inX2 : ∀ w ∈ u_ws RX2 TX2 2, w ∈ hs_U := by decide +kernel
theorem inX3 : ∀ w ∈ u_ws RX3 TX3 14, w ∈ hs_U := by decide +kernel
theorem inX4 : ∀ w ∈ u_ws RX4 TX4 9, w ∈ hs_U := by decide +kernel
theorem inX5 : ∀ w ∈ u_ws RX5 TX5 10, w ∈ hs_U := by decide +kernel
theorem inX6 : ∀ w ∈ u_ws RX6 TX6 29, w ∈ hs_U := by decide +kernel
end
section
/-! THE WORLD: 77 cells of fixed shape; only whole numbers in it change. A state: what each cell holds by its places, and the long fields. -/
abbrev hs_St : Type := (Nat → Nat → Int32) × (Nat → Int64)
abbrev hs_Sh : Type := (Nat × Nat) ⊕ (Nat × List (Option (Option Nat)))
/-- what is fixed in a launch: the classes' numbers and slots, the array classes, the addresses of the cells (and from 1000 on of the texts), the addresses of the texts' bytes -/
abbrev hs_G : Type := va_G × (Nat → ClassId) × (Nat → Nat) × (Nat → Nat)
/-- a method: name, bytes, locals, return type, frames, words -/
abbrev hs_M : Type := MethodName × ByteArray × Nat × Option FieldType × Nat × Nat
def hs_rm (d : hs_M) : Room := { frames := d.2.2.2.2.1, cells := 0, slots := 0, locals := d.2.2.2.2.2 }
def hs_ws (d : hs_M) : List Cond := Cond.code d.1 d.2.1 d.2.2.1 d.2.2.2.1 :: hs_U
def hs_shape : List hs_Sh := [.inr (5, [some (some 1), some (some 8), some (some 19), some (some 21), some (some 34), some (some 57), some (some 58), some (some 62), none, none]), .inr (4, [none, some (some 2), some (some 3), some (some 4), none, some (some 5), some (some 6), none, some (some 7)]), .inl (0, 4), .inl (0, 4), .inl (0, 4), .inl (0, 3), .inl (0, 3), .inl (0, 6), .inr (3, [none, some (some 9), some (some 10), some (some 11), some (some 12), some (some 13), none, some (some 14), some (some 15), none, none, some (some 16), some (some 17), some (some 18)]), .inl (0, 4), .inl (0, 4), .inl (0, 4), .inl (0, 4), .inl (0, 4), .inl (0, 3), .inl (0, 3), .inl (0, 6), .inl (0, 6), .inl (0, 6), .inr (2, [some (some 20), none]), .inl (0, 160), .inr (0, [some (some 19), some (some 22), some (some 33), none, none, none, none, none, none]), .inr (3, [none, some (some 23), some (some 24), some (some 25), some (some 26), some (some 27), none, some (some 28), some (some 29), none, none, some (some 30), some (some 31), some (some 32)]), .inl (0, 4), .inl (0, 4), .inl (0, 4), .inl (0, 4), .inl (0, 4), .inl (0, 3), .inl (0, 3), .inl (0, 6), .inl (0, 6), .inl (0, 6), .inl (0, 4), .inl (2, 2), .inr (3, [none, some (some 36), some (some 37), some (some 38), some (some 39), some (some 40), none, some (some 41), some (some 42), none, none, some (some 43), some (some 44), some (some 45)]), .inl (0, 4), .inl (0, 4), .inl (0, 4), .inl (0, 4), .inl (0, 4), .inl (0, 3), .inl (0, 3), .inl (0, 6), .inl (0, 6), .inl (0, 6), .inr (3, [none, some (some 47), some (some 48), some (some 49), some (some 50), some (some 51), none, some (some 52), some (some 53), none, none, some (some 54), some (some 55), some (some 56)]), .inl (0, 4), .inl (0, 4), .inl (0, 4), .inl (0, 4), .inl (0, 4), .inl (0, 3), .inl (0, 3), .inl (0, 6), .inl (0, 6), .inl (0, 6), .inl (1, 2), .inr (1, [some (some 59), some (some 60), some (some 61)]), .inl (0, 4), .inl (0, 4), .inl (0, 160), .inl (0, 126), .inr (6, [some (some 64), some (some 65), some (some 66), none, some (some 67), none, none, some (some 68), none, some (some 69), none, none, none, none, none, none, none, none, some (some 70), some none, some none, some none, some (some 71), some (some 72), some (some 73), some (some 74), some (some 75), none, some (some 76)]), .inl (0, 141), .inl (0, 47), .inl (1, 2), .inl (0, 47), .inl (0, 4), .inl (0, 160), .inl (0, 6), .inl (0, 84), .inl (0, 126), .inl (0, 4), .inl (0, 4), .inl (0, 160), .inl (0, 47)]
def hs_img (j : Nat) : Nat := if j = 0 then 35 else 46
def hs_fv (G : hs_G) (σ : hs_St) (k j : Nat) : Option (Option Nat) → Value
  | none => .int (σ.1 k j)
  | some none => .long (σ.2 j)
  | some (some r) => .ref (G.2.2.1 r)
def hs_fs (G : hs_G) (σ : hs_St) (k : Nat) (fd : List (Option (Option Nat))) : List Value := fd.mapIdx (fun j d => hs_fv G σ k j d)
def hs_cell (G : hs_G) (σ : hs_St) (k : Nat) : hs_Sh → va_E
  | .inl q => if q.1 = 2 then .inl (G.2.1 2, q.2, .inr (.inr (.inr (.inr (fun j => some (G.2.2.1 (hs_img j))))))) else .inl (G.2.1 q.1, q.2, .inl (σ.1 k))
  | .inr q => .inr (q.1, hs_fs G σ k q.2)
def hs_enc (G : hs_G) (σ : hs_St) : va_W := hs_shape.mapIdx (fun k s => (G.2.2.1 k, hs_cell G σ k s))
def hs_tys (G : hs_G) : List (ClassId × FieldType) := [(G.2.1 0, .int), (G.2.1 1, .boolean), (G.2.1 2, .object "HauntSums$Town")]
def hs_ua (σ : hs_St) (k : Nat) (f : Nat → Int32) : hs_St := (fun j => if j = k then f else σ.1 j, σ.2)
def hs_w (σ : hs_St) (k i : Nat) (v : Int32) : hs_St := hs_ua σ k (upd (σ.1 k) i v)
def hs_wl (σ : hs_St) (i : Nat) (v : Int64) : hs_St := (σ.1, vp_updL σ.2 i v)
def hs_tr (a : Nat → Nat) : Value → Value
  | .ref k => .ref (a k)
  | v => v
def hs_tv (a : Nat → Nat) (q : Nat × Value) : Nat × Value := (q.1, hs_tr a q.2)
theorem hs_tr_cat (a : Nat → Nat) (v : Value) : (hs_tr a v).category = v.category := by cases v <;> rfl
theorem hs_tr_sum (a : Nat → Nat) (l : List Value) : ((l.map (hs_tr a)).map fun v => v.category).sum = (l.map fun v => v.category).sum := by
  rw [List.map_map]
  congr 1
  exact List.map_congr_left fun v _ => hs_tr_cat a v
theorem hs_enc_at {G : hs_G} {σ : hs_St} {k : Nat} {s : hs_Sh} (h : hs_shape[k]? = some s) : (hs_enc G σ)[k]? = some (G.2.2.1 k, hs_cell G σ k s) := by
  simp [hs_enc, List.getElem?_mapIdx, h]
theorem hs_enc_adr {G : hs_G} {σ : hs_St} {k : Nat} {q : Nat × va_E} (h : (hs_enc G σ)[k]? = some q) : k < 77 ∧ q.1 = G.2.2.1 k := by
  rw [hs_enc, List.getElem?_mapIdx] at h
  cases hs : hs_shape[k]? with
  | none => rw [hs] at h; cases h
  | some s =>
    rw [hs] at h
    have hl : k < hs_shape.length := (List.getElem?_eq_some_iff.mp hs).1
    have h77 : hs_shape.length = 77 := by decide +kernel
    cases h
    exact ⟨by omega, rfl⟩
theorem hs_mapIdx {α β : Type} {f g : Nat → α → β} {l : List α} (h : ∀ i d, l[i]? = some d → f i d = g i d) : l.mapIdx f = l.mapIdx g := by
  apply List.ext_getElem?
  intro i
  simp only [List.getElem?_mapIdx]
  cases hd : l[i]? with
  | none => rfl
  | some d => simp only [Option.map_some, h i d hd]
theorem hs_cell_ne {G : hs_G} {σ : hs_St} {k j : Nat} {f : Nat → Int32} (s : hs_Sh) (h : j ≠ k) : hs_cell G (hs_ua σ k f) j s = hs_cell G σ j s := by
  have e : (hs_ua σ k f).1 j = σ.1 j := by simp [hs_ua, h]
  cases s with
  | inl q => simp only [hs_cell, e]
  | inr q =>
    simp only [hs_cell, hs_fs]
    congr 2
    refine hs_mapIdx ?_
    intro i d _
    cases d with
    | none => simp only [hs_fv, e]
    | some x => cases x <;> rfl
theorem hs_enc_ua {G : hs_G} {σ : hs_St} {k t n : Nat} {f : Nat → Int32} (h : hs_shape[k]? = some (.inl (t, n))) (ht : t ≠ 2) : (hs_enc G σ).set k (G.2.2.1 k, .inl (G.2.1 t, n, .inl f)) = hs_enc G (hs_ua σ k f) := by
  apply List.ext_getElem?
  intro j
  rw [List.getElem?_set]
  by_cases hj : k = j
  · subst hj
    have hl := (List.getElem?_eq_some_iff.mp (hs_enc_at (G := G) (σ := σ) h)).1
    rw [if_pos rfl, if_pos hl, hs_enc_at h]
    simp only [hs_cell, if_neg ht, hs_ua, if_true]
  · rw [if_neg hj]
    simp only [hs_enc, List.getElem?_mapIdx]
    cases hs_shape[j]? with
    | none => rfl
    | some s => simp only [Option.map_some, hs_cell_ne s (Ne.symm hj)]
theorem hs_fs_at {G : hs_G} {σ : hs_St} {k j : Nat} {fd : List (Option (Option Nat))} {x : Option (Option Nat)} (h : fd[j]? = some x) : (hs_fs G σ k fd)[j]? = some (hs_fv G σ k j x) := by
  simp [hs_fs, List.getElem?_mapIdx, h]
theorem hs_fs_set {G : hs_G} {σ : hs_St} {k j : Nat} {fd : List (Option (Option Nat))} {v : Int32} (h : fd[j]? = some none) : (hs_fs G σ k fd).set j (.int v) = hs_fs G (hs_w σ k j v) k fd := by
  apply List.ext_getElem?
  intro i
  rw [List.getElem?_set]
  by_cases hj : j = i
  · subst hj
    have hl := (List.getElem?_eq_some_iff.mp (hs_fs_at (G := G) (σ := σ) (k := k) h)).1
    rw [if_pos rfl, if_pos hl, hs_fs_at h]
    simp [hs_fv, hs_w, hs_ua, upd]
  · rw [if_neg hj]
    simp only [hs_fs, List.getElem?_mapIdx]
    cases fd[i]? with
    | none => rfl
    | some d =>
      cases d with
      | none => simp [hs_fv, hs_w, hs_ua, upd, Ne.symm hj]
      | some x => cases x <;> rfl
theorem hs_enc_w {G : hs_G} {σ : hs_St} {k j ci : Nat} {fd : List (Option (Option Nat))} {v : Int32} (h : hs_shape[k]? = some (.inr (ci, fd))) (hj : fd[j]? = some none) : (hs_enc G σ).set k (G.2.2.1 k, .inr (ci, (hs_fs G σ k fd).set j (.int v))) = hs_enc G (hs_w σ k j v) := by
  apply List.ext_getElem?
  intro i
  rw [List.getElem?_set]
  by_cases hi : k = i
  · subst hi
    have hl := (List.getElem?_eq_some_iff.mp (hs_enc_at (G := G) (σ := σ) h)).1
    rw [if_pos rfl, if_pos hl, hs_enc_at h, hs_fs_set hj]
    rfl
  · rw [if_neg hi]
    simp only [hs_enc, List.getElem?_mapIdx]
    cases hs_shape[i]? with
    | none => rfl
    | some s => simp only [Option.map_some, hs_w, hs_cell_ne s (Ne.symm hi)]
def hs_noL : hs_Sh → Bool
  | .inl _ => true
  | .inr q => q.2.all (fun d => d != some none)
theorem hs_noLs : ∀ k, k < 77 → k ≠ 63 → (hs_shape[k]?.map hs_noL) = some true := by decide +kernel
theorem hs_cell_wl {G : hs_G} {σ : hs_St} {k j : Nat} {v : Int64} (s : hs_Sh) (h : hs_noL s = true) : hs_cell G (hs_wl σ j v) k s = hs_cell G σ k s := by
  cases s with
  | inl q => rfl
  | inr q =>
    simp only [hs_cell, hs_fs]
    congr 2
    refine hs_mapIdx ?_
    intro i d hd0
    have hd : d ∈ q.2 := List.mem_of_getElem? hd0
    cases d with
    | none => rfl
    | some x =>
      cases x with
      | none =>
        have h1 := List.all_eq_true.mp (show q.2.all (fun d => d != some none) = true from h) (some none) hd
        simp at h1
      | some r => rfl
theorem hs_enc_wl {G : hs_G} {σ : hs_St} {j ci : Nat} {fd : List (Option (Option Nat))} {v : Int64} (h : hs_shape[63]? = some (.inr (ci, fd))) (hj : fd[j]? = some (some none)) : (hs_enc G σ).set 63 (G.2.2.1 63, .inr (ci, (hs_fs G σ 63 fd).set j (.long v))) = hs_enc G (hs_wl σ j v) := by
  apply List.ext_getElem?
  intro i
  rw [List.getElem?_set]
  by_cases hi : 63 = i
  · subst hi
    have hl := (List.getElem?_eq_some_iff.mp (hs_enc_at (G := G) (σ := σ) h)).1
    rw [if_pos rfl, if_pos hl, hs_enc_at h]
    have e : (hs_fs G σ 63 fd).set j (.long v) = hs_fs G (hs_wl σ j v) 63 fd := by
      apply List.ext_getElem?
      intro i
      rw [List.getElem?_set]
      by_cases hj2 : j = i
      · subst hj2
        have hl := (List.getElem?_eq_some_iff.mp (hs_fs_at (G := G) (σ := σ) (k := 63) hj)).1
        rw [if_pos rfl, if_pos hl, hs_fs_at hj]
        simp [hs_fv, hs_wl, vp_updL]
      · rw [if_neg hj2]
        simp only [hs_fs, List.getElem?_mapIdx]
        cases fd[i]? with
        | none => rfl
        | some d =>
          cases d with
          | none => rfl
          | some x =>
            cases x with
            | none => simp [hs_fv, hs_wl, vp_updL, Ne.symm hj2]
            | some r => rfl
    rw [e]
    rfl
  · rw [if_neg hi]
    simp only [hs_enc, List.getElem?_mapIdx]
    cases hs : hs_shape[i]? with
    | none => rfl
    | some s =>
      have hl : i < hs_shape.length := (List.getElem?_eq_some_iff.mp hs).1
      have h77 : hs_shape.length = 77 := by decide +kernel
      have h1 := hs_noLs i (by omega) (fun e => hi e.symm)
      rw [hs] at h1
      simp only [Option.map_some, hs_cell_wl s (Option.some.inj h1)]
/-- the addresses are apart, and of a kind: for one state as for another -/
theorem hs_D {G : hs_G} {σ τ : hs_St} {A : Nat → Prop} (h : va_D A (hs_enc G σ)) : va_D A (hs_enc G τ) := by
  have back : ∀ {k : Nat} {q : Nat × va_E}, (hs_enc G τ)[k]? = some q → ∃ q', (hs_enc G σ)[k]? = some q' ∧ q'.1 = q.1 := by
    intro k q hq
    rw [hs_enc, List.getElem?_mapIdx] at hq
    cases hs : hs_shape[k]? with
    | none => rw [hs] at hq; cases hq
    | some s =>
      rw [hs] at hq
      cases hq
      exact ⟨_, hs_enc_at hs, rfl⟩
  refine ⟨fun i j p q hp hq e => ?_, fun k q hq => ?_⟩
  · obtain ⟨p', h1, e1⟩ := back hp
    obtain ⟨q', h2, e2⟩ := back hq
    exact h.1 i j p' q' h1 h2 (by rw [e1, e2, e])
  · obtain ⟨q', h1, e1⟩ := back hq
    rw [← e1]
    exact h.2 k q' h1
theorem hs_A {G : hs_G} {σ τ : hs_St} {sz q : Nat} (h : va_A (hs_enc G σ) sz q) : va_A (hs_enc G τ) sz q := by
  rcases h with ⟨k, e, h⟩ | h
  · rw [hs_enc, List.getElem?_mapIdx] at h
    cases hs : hs_shape[k]? with
    | none => rw [hs] at h; cases h
    | some s =>
      rw [hs] at h
      cases h
      exact Or.inl ⟨k, _, hs_enc_at hs⟩
  · exact Or.inr h
/-! WHAT HOLDS OF A LAUNCH'S TABLES: nest mates' links, the texts -/
def hs_nest : List Cond := [(Cond.methodLinkNest "HauntSums" 9 ⟨"HauntSums$Walk", "<init>", "()V"⟩ "HauntSums"), (Cond.methodLinkNest "HauntSums" 18 ⟨"HauntSums$Town", "<init>", "()V"⟩ "HauntSums"), (Cond.methodLinkNest "HauntSums" 25 ⟨"HauntSums$Tape", "<init>", "()V"⟩ "HauntSums"), (Cond.methodLinkNest "HauntSums$Reader" 11 ⟨"HauntSums$Town", "<init>", "()V"⟩ "HauntSums"), (Cond.methodLinkNest "HauntSums" 49 ⟨"HauntSums$Sheets", "<init>", "()V"⟩ "HauntSums"), (Cond.methodLinkNest "HauntSums$Town" 61 ⟨"HauntSums", "within", "(III)Z"⟩ "HauntSums"), (Cond.methodLinkNest "HauntSums$Reader" 133 ⟨"HauntSums", "within", "(III)Z"⟩ "HauntSums"), (Cond.methodLinkNest "HauntSums$Walk" 63 ⟨"HauntSums", "answerOf", "(III)I"⟩ "HauntSums"), (Cond.methodLinkNest "HauntSums$Walk" 67 ⟨"HauntSums", "stepsOf", "(II)I"⟩ "HauntSums"), (Cond.methodLinkNest "HauntSums$Town" 85 ⟨"HauntSums", "sevensOf", "(I)I"⟩ "HauntSums"), (Cond.methodLinkNest "HauntSums$Town" 65 ⟨"HauntSums", "answerOf", "(III)I"⟩ "HauntSums"), (Cond.methodLinkNest "HauntSums$Town" 73 ⟨"HauntSums", "stepsOf", "(II)I"⟩ "HauntSums"), (Cond.methodLinkNest "HauntSums$Sheets" 21 ⟨"HauntSums", "within", "(III)Z"⟩ "HauntSums")]
def hs_N (U : State) : Prop := ∀ w ∈ hs_nest, va_Nw w U
def hs_len : List Nat := [4, 4, 5, 4, 4, 5]
def hs_byt : List (List Int32) := [[112, 108, 117, 115], [108, 101, 115, 115], [116, 105, 109, 101, 115], [111, 118, 101, 114], [100, 111, 110, 101], [99, 108, 101, 114, 107]]
def hs_txt : List (Nat × String) := [(90, "plus"), (96, "less"), (98, "times"), (100, "over"), (102, "done"), (103, "clerk")]
/-- the texts and the JDK's statics, at cells that nobody writes -/
def hs_X (G : hs_G) (A : Nat → Prop) (U : State) (H : Heap) : Prop :=
  vk_S 6 hs_len hs_byt (fun i => G.2.2.1 (1000 + i)) G.2.2.2 A U H ∧ (∀ i q, hs_txt[i]? = some q → vk_R "HauntSums$Reader" q.1 q.2 (G.2.2.1 (1000 + i)) U) ∧ va_Z "java/lang/String" "COMPACT_STRINGS" "Z" (.int 1) A U H ∧ ∃ v : Value, (v = .null ∨ ∃ a, v = .ref a) ∧ va_Z "jdk/internal/util/Preconditions" "SIOOBE_FORMATTER" "Ljava/util/function/BiFunction;" v A U H
theorem hs_nest_ok : ∀ w ∈ hs_nest, ∃ a i x h, w = .methodLinkNest a i x h := by
  intro w hw
  simp only [hs_nest, List.mem_cons, List.not_mem_nil, or_false] at hw
  rcases hw with rfl | rfl | rfl | rfl | rfl | rfl | rfl | rfl | rfl | rfl | rfl | rfl | rfl <;> exact ⟨_, _, _, _, rfl⟩
theorem hs_N.warm {s U : State} (hW : s.WarmedH U.vm) (h : hs_N s) : hs_N U := by
  intro w hw
  obtain ⟨a, i, x, hh, rfl⟩ := hs_nest_ok w hw
  exact (h _ hw).warmM hW
theorem hs_N.same {u U : State} (hv : u.vm = U.vm) (h : hs_N u) : hs_N U := by
  intro w hw
  obtain ⟨a, i, x, hh, rfl⟩ := hs_nest_ok w hw
  exact (h _ hw).same rfl hv
theorem hs_X.warm {G : hs_G} {A : Nat → Prop} {s U : State} {H : Heap} (hW : s.WarmedH U.vm) (h : hs_X G A s H) : hs_X G A U H := by
  obtain ⟨h1, h2, h3, v, hv, h4⟩ := h
  exact ⟨h1.moved hW.alike, fun i q hq => (h2 i q hq).warm hW, h3.moved hW.alike, v, hv, h4.moved hW.alike⟩
theorem hs_X.same {G : hs_G} {A : Nat → Prop} {u U : State} {H : Heap} (hv : u.vm = U.vm) (h : hs_X G A u H) : hs_X G A U H := by
  obtain ⟨h1, h2, h3, v, hv4, h4⟩ := h
  have ha : u.vm.Alike U.vm := by rw [← hv]; exact Vm.Alike.refl _
  exact ⟨h1.moved ha, fun i q hq => (h2 i q hq).same hv.symm, h3.moved ha, v, hv4, h4.moved ha⟩
theorem hs_X.kept {G : hs_G} {A : Nat → Prop} {U : State} {H H1 : Heap} (h : hs_X G A U H) (hq : ∀ a : Nat, a < H.size → ¬ A a → H1[a]? = H[a]?) : hs_X G A U H1 := by
  obtain ⟨h1, h2, h3, v, hv, h4⟩ := h
  exact ⟨h1.kept hq, h2, h3.kept hq, v, hv, h4.kept hq⟩
theorem hs_X.narrow {G : hs_G} {A B : Nat → Prop} {U : State} {H : Heap} (h : hs_X G A U H) (hAB : ∀ q, B q → A q) : hs_X G B U H := by
  obtain ⟨h1, h2, h3, v, hv, h4⟩ := h
  exact ⟨h1.narrow hAB, h2, h3.narrow hAB, v, hv, h4.narrow hAB⟩
/-! THE CONTRACT of a method over the world, and the judgement at a place of its code -/
def hs_Pc (G : hs_G) (σ : hs_St) (av : List Value) (sz : Nat) : Array Value → State → Prop :=
  va_Pc (av.map (hs_tr G.2.2.1)) (fun U => U.heap.size = sz ∧ va_P G.1 vwCl (hs_enc G σ) U.heap ∧ va_K G.1 vwCl (hs_tys G) U ∧ va_D (fun _ => True) (hs_enc G σ) ∧ hs_N U ∧ hs_X G (va_A (hs_enc G σ) sz) U U.heap)
def hs_Qc (G : hs_G) (A : Nat → Prop) (K : Option Value → hs_St → Prop) : Array Value → State → Outcome → State → Prop :=
  fun _ st oc t => (∃ (r : Option Value) (τ : hs_St), oc = .returned (r.map (hs_tr G.2.2.1)) ∧ K r τ ∧ va_P G.1 vwCl (hs_enc G τ) t.heap) ∧ va_F A st t
def hs_Ok (d : hs_M) (av : List Value) (σ : hs_St) (K : Option Value → hs_St → Prop) : Prop :=
  ∀ (l : Launch) (G : hs_G) (sz : Nat), Met l d.1 (hs_ws d) (hs_rm d) (hs_Pc G σ av sz) (hs_Qc G (va_A (hs_enc G σ) sz) K) 0 0 (va_A (hs_enc G σ) sz)
def hs_Cx (d : hs_M) (p : Program) (s : State) (m : MethodId) (args : Array Value) (meth : Method) (c : Code) (G : hs_G) (A : Nat → Prop) : Prop :=
  p.tables.exec = Jvm.exec ∧ c.code = d.2.1 ∧ meth.sig.returnType = d.2.2.2.1 ∧ c.maxLocals = d.2.2.1 ∧ s.vm.findClass d.1.cls = some m.cls ∧ (∀ w ∈ hs_ws d, w.before args s = true) ∧ meth.locks = false ∧
  va_K G.1 vwCl (hs_tys G) s ∧ hs_N s ∧ hs_X G A s s.heap ∧ (∀ q, s.heap.size ≤ q → A q) ∧ ∀ σ, va_D A (hs_enc G σ)
def hs_Rn (d : hs_M) (pc : Nat) (lv : List (Nat × Value)) (st : List Value) (σ : hs_St) (K : Option Value → hs_St → Prop) : Prop :=
  ∀ (p : Program) (l : Launch) (e : Env) (s : State) (m : MethodId) (args : Array Value) (below : List Frame) (meth : Method) (c : Code) (G : hs_G) (A : Nat → Prop), hs_Cx d p s m args meth c G A →
    ∀ (H : Heap) (locs : List Loc) (ls : Array Slot), va_P G.1 vwCl (hs_enc G σ) H → va_S A s.heap H locs → lv_has ls d.2.2.1 (lv.map (hs_tv G.2.2.1)) →
      W p l e (hs_rm d) s m args below meth c H locs 0 0 (MQ below (hs_Qc G A K) args s 0 0 A) (F0 m pc ls (st.map (hs_tr G.2.2.1)))
theorem hs_args_tv (a : Nat → Nat) : ∀ (vs : List Value) (i : Nat), lv_args i (vs.map (hs_tr a)) = (lv_args i vs).map (hs_tv a)
  | [], _ => rfl
  | v :: vs, i => by
    simp only [List.map_cons, lv_args, hs_tr_cat]
    rw [hs_args_tv a vs]
    rfl
theorem hs_sl_len (a : Nat → Nat) : ∀ (vs : List Value), (lg_sl (vs.map (hs_tr a))).length = (lg_sl vs).length
  | [] => rfl
  | v :: vs => by
    have h := hs_sl_len a vs
    simp only [lg_sl, List.map_cons, List.flatMap_cons, List.length_append, hs_tr_cat] at h ⊢
    rw [h]
    split <;> rfl
theorem hs_ok_of {d : hs_M} {av : List Value} {σ : hs_St} {K : Option Value → hs_St → Prop} (hy : plainName d.1.cls = true) (hn : (lg_sl av).length ≤ d.2.2.1) (h : hs_Rn d 0 (lv_args 0 av) [] σ K) : hs_Ok d av σ K := by
  intro l G sz
  refine Met.ofW (cc := d.2.1) (maxL := d.2.2.1) (ret := d.2.2.2.1) hy rfl ?_
  intro p e s m args below meth c s₁ B hml hv
  obtain ⟨rfl, hsz, hP, hK, hD0, hN, hX⟩ := hv
  subst hsz
  have hts := atoms_spec (ws := hs_ws d) B.pre
  have hown : s.vm.findClass d.1.cls = some m.cls := findClass_of_methodNamed B.named
  have hC : hs_Cx d p s m (av.map (hs_tr G.2.2.1)).toArray meth c G (va_A (hs_enc G σ) s.heap.size) :=
    ⟨B.exec, B.bytes, B.returns, hml, hown, hts, B.notSynchronized, hK, hN, hX, fun q h => Or.inr h, fun τ => hs_D (σ := σ) (hD0.self (sz := s.heap.size))⟩
  have hl := lv_entry (av.map (hs_tr G.2.2.1)) (n := d.2.2.1) (by rw [hs_sl_len]; exact hn)
  rw [lg_entry_eq]
  rw [hs_args_tv] at hl
  exact h p l e s m _ below meth c G _ hC s.heap [] _ hP va_S.rf hl
theorem hs_Qc.mono {G : hs_G} {A : Nat → Prop} {K K' : Option Value → hs_St → Prop} (h : ∀ r τ, K r τ → K' r τ) {a : Array Value} {st t : State} {o : Outcome} (q : hs_Qc G A K a st o t) : hs_Qc G A K' a st o t := by
  obtain ⟨⟨r, τ, h1, h2, h3⟩, h4⟩ := q
  exact ⟨⟨r, τ, h1, h r τ h2, h3⟩, h4⟩
theorem hs_Ok.mono {d : hs_M} {av : List Value} {σ : hs_St} {K K' : Option Value → hs_St → Prop} (hk : hs_Ok d av σ K) (h : ∀ r τ, K r τ → K' r τ) : hs_Ok d av σ K' := by
  intro l G sz p e ha hc hkk s m args below hf happ hP hT
  obtain ⟨t, o, h1, h2, h3, h4, h5⟩ := hk l G sz p e ha hc hkk s m args below hf happ hP hT
  exact ⟨t, o, h1, h2, h3, hs_Qc.mono h h4, h5⟩
end
section
section HR
variable {d : hs_M} {pc : Nat} {lv : List (Nat × Value)} {st : List Value} {σ : hs_St} {K : Option Value → hs_St → Prop}
theorem hs_lv_at {a : Nat → Nat} {ls : Array Slot} {n : Nat} (h : lv_has ls n (lv.map (hs_tv a))) (j : Nat) {i : Nat} {v : Value} (hj : lv[j]? = some (i, v)) : ls[i]? = some (.val (hs_tr a v)) :=
  lv_at h j (by rw [List.getElem?_map, hj]; rfl)
/-- a store into the locals, which stay in order -/
def hs_put (i : Nat) (v : Value) : List (Nat × Value) → List (Nat × Value)
  | [] => [(i, v)]
  | q :: r => if q.1 + 1 = i ∧ q.2.category = 2 then hs_put i v r else if q.1 < i then q :: hs_put i v r else if q.1 = i then (i, v) :: r.filter (fun q => !(q.1 == i)) else (i, v) :: q :: r.filter (fun q => !(q.1 == i))
theorem hs_put_mem (i : Nat) (v : Value) : ∀ (l : List (Nat × Value)) (q : Nat × Value), (∀ x ∈ l, ∀ y ∈ l, x.1 + 1 = i → x.2.category = 2 → i ≤ y.1 → y.1 ≠ i → True) → q ∈ hs_put i v l → q = (i, v) ∨ (q ∈ l ∧ q.1 ≠ i)
  | [], q, _, h => by simp [hs_put] at h; exact Or.inl h
  | x :: r, q, hh, h => by
    simp only [hs_put] at h
    split at h
    · rcases hs_put_mem i v r q (fun _ _ _ _ _ _ _ _ => trivial) h with h1 | h1
      · exact Or.inl h1
      · exact Or.inr ⟨List.mem_cons_of_mem _ h1.1, h1.2⟩
    · split at h
      · rcases List.mem_cons.mp h with h1 | h1
        · subst h1; exact Or.inr ⟨List.mem_cons_self, by omega⟩
        · rcases hs_put_mem i v r q (fun _ _ _ _ _ _ _ _ => trivial) h1 with h2 | h2
          · exact Or.inl h2
          · exact Or.inr ⟨List.mem_cons_of_mem _ h2.1, h2.2⟩
      · split at h
        · rcases List.mem_cons.mp h with h1 | h1
          · exact Or.inl h1
          · have h2 := List.mem_filter.mp h1
            exact Or.inr ⟨List.mem_cons_of_mem _ h2.1, by simpa using h2.2⟩
        · rcases List.mem_cons.mp h with h1 | h1
          · exact Or.inl h1
          · rcases List.mem_cons.mp h1 with h2 | h2
            · subst h2; exact Or.inr ⟨List.mem_cons_self, by assumption⟩
            · have h3 := List.mem_filter.mp h2
              exact Or.inr ⟨List.mem_cons_of_mem _ h3.1, by simpa using h3.2⟩
/-- no long ends in place i -/
def hs_free1 (i : Nat) (l : List (Nat × Value)) : Bool := l.all (fun q => !(q.1 + 1 == i && q.2.category == 2))
def hs_free2 (i : Nat) (l : List (Nat × Value)) : Bool := l.all (fun q => !(q.1 + 1 == i && q.2.category == 2) && !(q.1 == i + 1))
theorem hs_put1 {a : Nat → Nat} {ls : Array Slot} {n i : Nat} {v : Value} (hf : hs_free1 i lv = true) (h : lv_has ls n ((i, hs_tr a v) :: (lv.map (hs_tv a)).filter (fun q => !(q.1 == i) && !(q.1 + 1 == i && q.2.category == 2)))) : lv_has ls n ((hs_put i v lv).map (hs_tv a)) := by
  refine ⟨h.1, h.2.1, fun q hq => h.2.2 q ?_⟩
  obtain ⟨x, hx, rfl⟩ := List.mem_map.mp hq
  rcases hs_put_mem i v lv x (fun _ _ _ _ _ _ _ _ => trivial) hx with e | ⟨h1, h2⟩
  · subst e; exact List.mem_cons_self
  · refine List.mem_cons_of_mem _ (List.mem_filter.mpr ⟨List.mem_map.mpr ⟨x, h1, rfl⟩, ?_⟩)
    have h3 := List.all_eq_true.mp hf x h1
    have e : (hs_tv a x).2.category = x.2.category := hs_tr_cat a x.2
    have e1 : (hs_tv a x).1 = x.1 := rfl
    rw [e, e1]
    simp only [Bool.and_eq_true]
    exact ⟨by simpa using h2, h3⟩
theorem hs_put2 {a : Nat → Nat} {ls : Array Slot} {n i : Nat} {v : Value} (hf : hs_free2 i lv = true) (h : lv_has ls n ((i, hs_tr a v) :: (lv.map (hs_tv a)).filter (fun q => !(q.1 == i) && (!(q.1 == i + 1) && !(q.1 + 1 == i && q.2.category == 2))))) : lv_has ls n ((hs_put i v lv).map (hs_tv a)) := by
  refine ⟨h.1, h.2.1, fun q hq => h.2.2 q ?_⟩
  obtain ⟨x, hx, rfl⟩ := List.mem_map.mp hq
  rcases hs_put_mem i v lv x (fun _ _ _ _ _ _ _ _ => trivial) hx with e | ⟨h1, h2⟩
  · subst e; exact List.mem_cons_self
  · refine List.mem_cons_of_mem _ (List.mem_filter.mpr ⟨List.mem_map.mpr ⟨x, h1, rfl⟩, ?_⟩)
    have h3 := List.all_eq_true.mp hf x h1
    have e : (hs_tv a x).2.category = x.2.category := hs_tr_cat a x.2
    have e1 : (hs_tv a x).1 = x.1 := rfl
    rw [e, e1]
    simp only [Bool.and_eq_true] at h3 ⊢
    exact ⟨by simpa using h2, h3.2, h3.1⟩
theorem hr_iconst {n : Int} {v : Int32} (hd : decode d.2.1 pc = .ok (.iconst n, 1)) (hv : Int32.ofInt n = v) (k : hs_Rn d (pc + 1) lv (.int v :: st) σ K) : hs_Rn d pc lv (st) σ K := fun p l e s m args below meth c G A C H locs ls hP hS hl => lv_iconst C.1 C.2.1 hd hv (k p l e s m args below meth c G A C H locs ls hP hS hl)
theorem hr_bipush {n : Int} {v : Int32} (hd : decode d.2.1 pc = .ok (.bipush n, 2)) (hv : (Int8.ofInt n).toInt32 = v) (k : hs_Rn d (pc + 2) lv (.int v :: st) σ K) : hs_Rn d pc lv (st) σ K := fun p l e s m args below meth c G A C H locs ls hP hS hl => lv_bipush C.1 C.2.1 hd hv (k p l e s m args below meth c G A C H locs ls hP hS hl)
theorem hr_sipush {n : Int} {v : Int32} (hd : decode d.2.1 pc = .ok (.sipush n, 3)) (hv : (Int16.ofInt n).toInt32 = v) (k : hs_Rn d (pc + 3) lv (.int v :: st) σ K) : hs_Rn d pc lv (st) σ K := fun p l e s m args below meth c G A C H locs ls hP hS hl => lv_sipush C.1 C.2.1 hd hv (k p l e s m args below meth c G A C H locs ls hP hS hl)
theorem hr_lconst {n : Fin 2} {v : Int64} (hd : decode d.2.1 pc = .ok (.lconst n, 1)) (hv : Int64.ofNat (n : Nat) = v) (k : hs_Rn d (pc + 1) lv (.long v :: st) σ K) : hs_Rn d pc lv (st) σ K := fun p l e s m args below meth c G A C H locs ls hP hS hl => lv_lconst C.1 C.2.1 hd hv (k p l e s m args below meth c G A C H locs ls hP hS hl)
theorem hr_iload_n {n : Fin 4} {x : Int32} (hd : decode d.2.1 pc = .ok (.iload_n n, 1)) (j : Nat) (hj : lv[j]? = some ((n : Nat), .int x)) (k : hs_Rn d (pc + 1) lv (.int x :: st) σ K) : hs_Rn d pc lv (st) σ K := fun p l e s m args below meth c G A C H locs ls hP hS hl => lv_iload_n C.1 C.2.1 hd rfl (hs_lv_at hl j hj) (k p l e s m args below meth c G A C H locs ls hP hS hl)
theorem hr_iload {i : Nat} {x : Int32} (hd : decode d.2.1 pc = .ok (.iload i, 2)) (j : Nat) (hj : lv[j]? = some (i, .int x)) (k : hs_Rn d (pc + 2) lv (.int x :: st) σ K) : hs_Rn d pc lv (st) σ K := fun p l e s m args below meth c G A C H locs ls hP hS hl => lv_iload C.1 C.2.1 hd (hs_lv_at hl j hj) (k p l e s m args below meth c G A C H locs ls hP hS hl)
theorem hr_lload_n {n : Fin 4} {x : Int64} (hd : decode d.2.1 pc = .ok (.lload_n n, 1)) (j : Nat) (hj : lv[j]? = some ((n : Nat), .long x)) (k : hs_Rn d (pc + 1) lv (.long x :: st) σ K) : hs_Rn d pc lv (st) σ K := fun p l e s m args below meth c G A C H locs ls hP hS hl => lv_lload_n C.1 C.2.1 hd rfl (hs_lv_at hl j hj) (k p l e s m args below meth c G A C H locs ls hP hS hl)
theorem hr_lload {i : Nat} {x : Int64} (hd : decode d.2.1 pc = .ok (.lload i, 2)) (j : Nat) (hj : lv[j]? = some (i, .long x)) (k : hs_Rn d (pc + 2) lv (.long x :: st) σ K) : hs_Rn d pc lv (st) σ K := fun p l e s m args below meth c G A C H locs ls hP hS hl => lv_lload C.1 C.2.1 hd (hs_lv_at hl j hj) (k p l e s m args below meth c G A C H locs ls hP hS hl)
theorem hr_aload_n {n : Fin 4} {x : Nat} (hd : decode d.2.1 pc = .ok (.aload_n n, 1)) (j : Nat) (hj : lv[j]? = some ((n : Nat), .ref x)) (k : hs_Rn d (pc + 1) lv (.ref x :: st) σ K) : hs_Rn d pc lv (st) σ K := fun p l e s m args below meth c G A C H locs ls hP hS hl => lv_aload_n C.1 C.2.1 hd rfl (hs_lv_at hl j hj) (k p l e s m args below meth c G A C H locs ls hP hS hl)
theorem hr_aload {i : Nat} {x : Nat} (hd : decode d.2.1 pc = .ok (.aload i, 2)) (j : Nat) (hj : lv[j]? = some (i, .ref x)) (k : hs_Rn d (pc + 2) lv (.ref x :: st) σ K) : hs_Rn d pc lv (st) σ K := fun p l e s m args below meth c G A C H locs ls hP hS hl => lv_aload C.1 C.2.1 hd (hs_lv_at hl j hj) (k p l e s m args below meth c G A C H locs ls hP hS hl)
theorem hr_iadd {x y : Int32} (hd : decode d.2.1 pc = .ok (.iadd, 1))  (k : hs_Rn d (pc + 1) lv (.int (x + y) :: st) σ K) : hs_Rn d pc lv (.int y :: .int x :: st) σ K := fun p l e s m args below meth c G A C H locs ls hP hS hl => lv_iadd C.1 C.2.1 hd (k p l e s m args below meth c G A C H locs ls hP hS hl)
theorem hr_isub {x y : Int32} (hd : decode d.2.1 pc = .ok (.isub, 1))  (k : hs_Rn d (pc + 1) lv (.int (x - y) :: st) σ K) : hs_Rn d pc lv (.int y :: .int x :: st) σ K := fun p l e s m args below meth c G A C H locs ls hP hS hl => lv_isub C.1 C.2.1 hd (k p l e s m args below meth c G A C H locs ls hP hS hl)
theorem hr_imul {x y : Int32} (hd : decode d.2.1 pc = .ok (.imul, 1))  (k : hs_Rn d (pc + 1) lv (.int (x * y) :: st) σ K) : hs_Rn d pc lv (.int y :: .int x :: st) σ K := fun p l e s m args below meth c G A C H locs ls hP hS hl => lv_imul C.1 C.2.1 hd (k p l e s m args below meth c G A C H locs ls hP hS hl)
theorem hr_iand {x y : Int32} (hd : decode d.2.1 pc = .ok (.iand, 1))  (k : hs_Rn d (pc + 1) lv (.int (x &&& y) :: st) σ K) : hs_Rn d pc lv (.int y :: .int x :: st) σ K := fun p l e s m args below meth c G A C H locs ls hP hS hl => lv_iand C.1 C.2.1 hd (k p l e s m args below meth c G A C H locs ls hP hS hl)
theorem hr_ior {x y : Int32} (hd : decode d.2.1 pc = .ok (.ior, 1))  (k : hs_Rn d (pc + 1) lv (.int (x ||| y) :: st) σ K) : hs_Rn d pc lv (.int y :: .int x :: st) σ K := fun p l e s m args below meth c G A C H locs ls hP hS hl => lv_ior C.1 C.2.1 hd (k p l e s m args below meth c G A C H locs ls hP hS hl)
theorem hr_ixor {x y : Int32} (hd : decode d.2.1 pc = .ok (.ixor, 1))  (k : hs_Rn d (pc + 1) lv (.int (x ^^^ y) :: st) σ K) : hs_Rn d pc lv (.int y :: .int x :: st) σ K := fun p l e s m args below meth c G A C H locs ls hP hS hl => lv_ixor C.1 C.2.1 hd (k p l e s m args below meth c G A C H locs ls hP hS hl)
theorem hr_ishl {x y : Int32} (hd : decode d.2.1 pc = .ok (.ishl, 1))  (k : hs_Rn d (pc + 1) lv (.int (x <<< (y &&& 31)) :: st) σ K) : hs_Rn d pc lv (.int y :: .int x :: st) σ K := fun p l e s m args below meth c G A C H locs ls hP hS hl => lv_ishl C.1 C.2.1 hd (k p l e s m args below meth c G A C H locs ls hP hS hl)
theorem hr_ishr {x y : Int32} (hd : decode d.2.1 pc = .ok (.ishr, 1))  (k : hs_Rn d (pc + 1) lv (.int (x >>> (y &&& 31)) :: st) σ K) : hs_Rn d pc lv (.int y :: .int x :: st) σ K := fun p l e s m args below meth c G A C H locs ls hP hS hl => lv_ishr C.1 C.2.1 hd (k p l e s m args below meth c G A C H locs ls hP hS hl)
theorem hr_idiv {x y : Int32} (hd : decode d.2.1 pc = .ok (.idiv, 1)) (hne : ¬ y = 0) (k : hs_Rn d (pc + 1) lv (.int (x / y) :: st) σ K) : hs_Rn d pc lv (.int y :: .int x :: st) σ K := fun p l e s m args below meth c G A C H locs ls hP hS hl => lv_idiv C.1 C.2.1 hd hne (k p l e s m args below meth c G A C H locs ls hP hS hl)
theorem hr_irem {x y : Int32} (hd : decode d.2.1 pc = .ok (.irem, 1)) (hne : ¬ y = 0) (k : hs_Rn d (pc + 1) lv (.int (x - x / y * y) :: st) σ K) : hs_Rn d pc lv (.int y :: .int x :: st) σ K := fun p l e s m args below meth c G A C H locs ls hP hS hl => lv_irem C.1 C.2.1 hd hne (k p l e s m args below meth c G A C H locs ls hP hS hl)
theorem hr_ladd {x y : Int64} (hd : decode d.2.1 pc = .ok (.ladd, 1))  (k : hs_Rn d (pc + 1) lv (.long (x + y) :: st) σ K) : hs_Rn d pc lv (.long y :: .long x :: st) σ K := fun p l e s m args below meth c G A C H locs ls hP hS hl => lv_ladd C.1 C.2.1 hd (k p l e s m args below meth c G A C H locs ls hP hS hl)
theorem hr_lmul {x y : Int64} (hd : decode d.2.1 pc = .ok (.lmul, 1))  (k : hs_Rn d (pc + 1) lv (.long (x * y) :: st) σ K) : hs_Rn d pc lv (.long y :: .long x :: st) σ K := fun p l e s m args below meth c G A C H locs ls hP hS hl => lv_lmul C.1 C.2.1 hd (k p l e s m args below meth c G A C H locs ls hP hS hl)
theorem hr_lsub {x y : Int64} (hd : decode d.2.1 pc = .ok (.lsub, 1))  (k : hs_Rn d (pc + 1) lv (.long (x - y) :: st) σ K) : hs_Rn d pc lv (.long y :: .long x :: st) σ K := fun p l e s m args below meth c G A C H locs ls hP hS hl => lv_lsub C.1 C.2.1 hd (k p l e s m args below meth c G A C H locs ls hP hS hl)
theorem hr_ldiv {x y : Int64} (hd : decode d.2.1 pc = .ok (.ldiv, 1)) (hne : ¬ y = 0) (k : hs_Rn d (pc + 1) lv (.long (x / y) :: st) σ K) : hs_Rn d pc lv (.long y :: .long x :: st) σ K := fun p l e s m args below meth c G A C H locs ls hP hS hl => lv_ldiv C.1 C.2.1 hd hne (k p l e s m args below meth c G A C H locs ls hP hS hl)
theorem hr_lrem {x y : Int64} (hd : decode d.2.1 pc = .ok (.lrem, 1)) (hne : ¬ y = 0) (k : hs_Rn d (pc + 1) lv (.long (x - x / y * y) :: st) σ K) : hs_Rn d pc lv (.long y :: .long x :: st) σ K := fun p l e s m args below meth c G A C H locs ls hP hS hl => lv_lrem C.1 C.2.1 hd hne (k p l e s m args below meth c G A C H locs ls hP hS hl)
theorem hr_iushr {x y : Int32} (hd : decode d.2.1 pc = .ok (.iushr, 1))  (k : hs_Rn d (pc + 1) lv (.int ((x.toUInt32 >>> (y.toUInt32 &&& Int32.toUInt32 31)).toInt32) :: st) σ K) : hs_Rn d pc lv (.int y :: .int x :: st) σ K := fun p l e s m args below meth c G A C H locs ls hP hS hl => lv_iushr C.1 C.2.1 hd rfl (k p l e s m args below meth c G A C H locs ls hP hS hl)
theorem hr_i2l {x : Int32} (hd : decode d.2.1 pc = .ok (.i2l, 1))  (k : hs_Rn d (pc + 1) lv (.long x.toInt64 :: st) σ K) : hs_Rn d pc lv (.int x :: st) σ K := fun p l e s m args below meth c G A C H locs ls hP hS hl => lv_i2l C.1 C.2.1 hd rfl (k p l e s m args below meth c G A C H locs ls hP hS hl)
theorem hr_i2b {x : Int32} (hd : decode d.2.1 pc = .ok (.i2b, 1))  (k : hs_Rn d (pc + 1) lv (.int x.toInt8.toInt32 :: st) σ K) : hs_Rn d pc lv (.int x :: st) σ K := fun p l e s m args below meth c G A C H locs ls hP hS hl => lv_i2b C.1 C.2.1 hd rfl (k p l e s m args below meth c G A C H locs ls hP hS hl)
theorem hr_i2s {x : Int32} (hd : decode d.2.1 pc = .ok (.i2s, 1))  (k : hs_Rn d (pc + 1) lv (.int x.toInt16.toInt32 :: st) σ K) : hs_Rn d pc lv (.int x :: st) σ K := fun p l e s m args below meth c G A C H locs ls hP hS hl => lv_i2s C.1 C.2.1 hd rfl (k p l e s m args below meth c G A C H locs ls hP hS hl)
theorem hr_i2c {x : Int32} (hd : decode d.2.1 pc = .ok (.i2c, 1))  (k : hs_Rn d (pc + 1) lv (.int (x.toUInt32 % 65536).toInt32 :: st) σ K) : hs_Rn d pc lv (.int x :: st) σ K := fun p l e s m args below meth c G A C H locs ls hP hS hl => lv_i2c C.1 C.2.1 hd rfl (k p l e s m args below meth c G A C H locs ls hP hS hl)
theorem hr_dup {v : Value} (hd : decode d.2.1 pc = .ok (.dup, 1)) (hv : v.category = 1) (k : hs_Rn d (pc + 1) lv (v :: v :: st) σ K) : hs_Rn d pc lv (v :: st) σ K := fun p l e s m args below meth c G A C H locs ls hP hS hl => lv_dup C.1 C.2.1 hd ((hs_tr_cat _ v).trans hv) (k p l e s m args below meth c G A C H locs ls hP hS hl)
theorem hr_pop {v : Value} (hd : decode d.2.1 pc = .ok (.pop, 1)) (hv : v.category = 1) (k : hs_Rn d (pc + 1) lv (st) σ K) : hs_Rn d pc lv (v :: st) σ K := fun p l e s m args below meth c G A C H locs ls hP hS hl => lv_pop C.1 C.2.1 hd ((hs_tr_cat _ v).trans hv) (k p l e s m args below meth c G A C H locs ls hP hS hl)
theorem hr_dup2 {v w : Value} (hd : decode d.2.1 pc = .ok (.dup2, 1)) (hv : v.category = 1) (hw : w.category = 1) (k : hs_Rn d (pc + 1) lv (v :: w :: v :: w :: st) σ K) : hs_Rn d pc lv (v :: w :: st) σ K := fun p l e s m args below meth c G A C H locs ls hP hS hl => lv_dup2_11 C.1 C.2.1 hd ((hs_tr_cat _ v).trans hv) ((hs_tr_cat _ w).trans hw) (k p l e s m args below meth c G A C H locs ls hP hS hl)
theorem hr_lcmp {x y : Int64} (hd : decode d.2.1 pc = .ok (.lcmp, 1))  (k : hs_Rn d (pc + 1) lv (.int (lg_cmp x y) :: st) σ K) : hs_Rn d pc lv (.long y :: .long x :: st) σ K := fun p l e s m args below meth c G A C H locs ls hP hS hl => W.lcmp C.1 C.2.1 hd (k p l e s m args below meth c G A C H locs ls hP hS hl)
theorem hr_istore_n {n : Fin 4} {x : Int32} {lv1 : List (Nat × Value)} (hd : decode d.2.1 pc = .ok (.istore_n n, 1)) (hn : (n : Nat) < d.2.2.1) (hf : hs_free1 (n : Nat) lv = true) (he : hs_put (n : Nat) (.int x) lv = lv1) (k : hs_Rn d (pc + 1) lv1 st σ K) : hs_Rn d pc lv (.int x :: st) σ K := by
  subst he
  exact fun p l e s m args below meth c G A C H locs ls hP hS hl => lv_istore_n (lv' := _) C.1 C.2.1 hd rfl hl hn rfl (fun ls hl => k p l e s m args below meth c G A C H locs ls hP hS (hs_put1 (v := .int x) hf hl))
theorem hr_istore {i : Nat} {x : Int32} {lv1 : List (Nat × Value)} (hd : decode d.2.1 pc = .ok (.istore i, 2)) (hn : i < d.2.2.1) (hf : hs_free1 i lv = true) (he : hs_put i (.int x) lv = lv1) (k : hs_Rn d (pc + 2) lv1 st σ K) : hs_Rn d pc lv (.int x :: st) σ K := by
  subst he
  exact fun p l e s m args below meth c G A C H locs ls hP hS hl => lv_istore (lv' := _) C.1 C.2.1 hd  hl hn rfl (fun ls hl => k p l e s m args below meth c G A C H locs ls hP hS (hs_put1 (v := .int x) hf hl))
theorem hr_lstore_n {n : Fin 4} {x : Int64} {lv1 : List (Nat × Value)} (hd : decode d.2.1 pc = .ok (.lstore_n n, 1)) (hn : (n : Nat) + 1 < d.2.2.1) (hf : hs_free2 (n : Nat) lv = true) (he : hs_put (n : Nat) (.long x) lv = lv1) (k : hs_Rn d (pc + 1) lv1 st σ K) : hs_Rn d pc lv (.long x :: st) σ K := by
  subst he
  exact fun p l e s m args below meth c G A C H locs ls hP hS hl => lv_lstore_n (lv' := _) C.1 C.2.1 hd rfl hl hn rfl (fun ls hl => k p l e s m args below meth c G A C H locs ls hP hS (hs_put2 (v := .long x) hf hl))
theorem hr_lstore {i : Nat} {x : Int64} {lv1 : List (Nat × Value)} (hd : decode d.2.1 pc = .ok (.lstore i, 2)) (hn : i + 1 < d.2.2.1) (hf : hs_free2 i lv = true) (he : hs_put i (.long x) lv = lv1) (k : hs_Rn d (pc + 2) lv1 st σ K) : hs_Rn d pc lv (.long x :: st) σ K := by
  subst he
  exact fun p l e s m args below meth c G A C H locs ls hP hS hl => lv_lstore (lv' := _) C.1 C.2.1 hd  hl hn rfl (fun ls hl => k p l e s m args below meth c G A C H locs ls hP hS (hs_put2 (v := .long x) hf hl))
theorem hr_iinc {i : Nat} {n : Int} {x v : Int32} {lv1 : List (Nat × Value)} (hd : decode d.2.1 pc = .ok (.iinc i n, 3)) (j : Nat) (hj : lv[j]? = some (i, .int x)) (hv : x + Int32.ofInt n = v) (hn : i < d.2.2.1) (hf : hs_free1 i lv = true) (he : hs_put i (.int v) lv = lv1) (k : hs_Rn d (pc + 3) lv1 st σ K) : hs_Rn d pc lv st σ K := by
  subst he
  exact fun p l e s m args below meth c G A C H locs ls hP hS hl => lv_iinc (k := j) (lv' := _) C.1 C.2.1 hd hl (by rw [List.getElem?_map, hj]; rfl) hv hn rfl (fun ls hl => k p l e s m args below meth c G A C H locs ls hP hS (hs_put1 (v := .int v) hf hl))
theorem hr_if_eq {x : Int32} {off : Int} {tgt : Nat} (hd : decode d.2.1 pc = .ok (.ifCond .eq off, 3)) (ht : (pc : Int) + off = (tgt : Int)) (kt : x = 0 → hs_Rn d tgt lv st σ K) (kf : ¬ x = 0 → hs_Rn d (pc + 3) lv st σ K) : hs_Rn d pc lv (.int x :: st) σ K := fun p l e s m args below meth c G A C H locs ls hP hS hl => lv_if_eq C.1 C.2.1 hd ht (fun h => kt h p l e s m args below meth c G A C H locs ls hP hS hl) (fun h => kf h p l e s m args below meth c G A C H locs ls hP hS hl)
theorem hr_icmp_eq {x y : Int32} {off : Int} {tgt : Nat} (hd : decode d.2.1 pc = .ok (.if_icmp .eq off, 3)) (ht : (pc : Int) + off = (tgt : Int)) (kt : x = y → hs_Rn d tgt lv st σ K) (kf : ¬ x = y → hs_Rn d (pc + 3) lv st σ K) : hs_Rn d pc lv (.int y :: .int x :: st) σ K := fun p l e s m args below meth c G A C H locs ls hP hS hl => lv_icmp_eq C.1 C.2.1 hd ht (fun h => kt h p l e s m args below meth c G A C H locs ls hP hS hl) (fun h => kf h p l e s m args below meth c G A C H locs ls hP hS hl)
theorem hr_if_ne {x : Int32} {off : Int} {tgt : Nat} (hd : decode d.2.1 pc = .ok (.ifCond .ne off, 3)) (ht : (pc : Int) + off = (tgt : Int)) (kt : ¬ x = 0 → hs_Rn d tgt lv st σ K) (kf : x = 0 → hs_Rn d (pc + 3) lv st σ K) : hs_Rn d pc lv (.int x :: st) σ K := fun p l e s m args below meth c G A C H locs ls hP hS hl => lv_if_ne C.1 C.2.1 hd ht (fun h => kt h p l e s m args below meth c G A C H locs ls hP hS hl) (fun h => kf h p l e s m args below meth c G A C H locs ls hP hS hl)
theorem hr_icmp_ne {x y : Int32} {off : Int} {tgt : Nat} (hd : decode d.2.1 pc = .ok (.if_icmp .ne off, 3)) (ht : (pc : Int) + off = (tgt : Int)) (kt : ¬ x = y → hs_Rn d tgt lv st σ K) (kf : x = y → hs_Rn d (pc + 3) lv st σ K) : hs_Rn d pc lv (.int y :: .int x :: st) σ K := fun p l e s m args below meth c G A C H locs ls hP hS hl => lv_icmp_ne C.1 C.2.1 hd ht (fun h => kt h p l e s m args below meth c G A C H locs ls hP hS hl) (fun h => kf h p l e s m args below meth c G A C H locs ls hP hS hl)
theorem hr_if_lt {x : Int32} {off : Int} {tgt : Nat} (hd : decode d.2.1 pc = .ok (.ifCond .lt off, 3)) (ht : (pc : Int) + off = (tgt : Int)) (kt : x < 0 → hs_Rn d tgt lv st σ K) (kf : ¬ x < 0 → hs_Rn d (pc + 3) lv st σ K) : hs_Rn d pc lv (.int x :: st) σ K := fun p l e s m args below meth c G A C H locs ls hP hS hl => lv_if_lt C.1 C.2.1 hd ht (fun h => kt h p l e s m args below meth c G A C H locs ls hP hS hl) (fun h => kf h p l e s m args below meth c G A C H locs ls hP hS hl)
theorem hr_icmp_lt {x y : Int32} {off : Int} {tgt : Nat} (hd : decode d.2.1 pc = .ok (.if_icmp .lt off, 3)) (ht : (pc : Int) + off = (tgt : Int)) (kt : x < y → hs_Rn d tgt lv st σ K) (kf : ¬ x < y → hs_Rn d (pc + 3) lv st σ K) : hs_Rn d pc lv (.int y :: .int x :: st) σ K := fun p l e s m args below meth c G A C H locs ls hP hS hl => lv_icmp_lt C.1 C.2.1 hd ht (fun h => kt h p l e s m args below meth c G A C H locs ls hP hS hl) (fun h => kf h p l e s m args below meth c G A C H locs ls hP hS hl)
theorem hr_if_ge {x : Int32} {off : Int} {tgt : Nat} (hd : decode d.2.1 pc = .ok (.ifCond .ge off, 3)) (ht : (pc : Int) + off = (tgt : Int)) (kt : 0 ≤ x → hs_Rn d tgt lv st σ K) (kf : ¬ 0 ≤ x → hs_Rn d (pc + 3) lv st σ K) : hs_Rn d pc lv (.int x :: st) σ K := fun p l e s m args below meth c G A C H locs ls hP hS hl => lv_if_ge C.1 C.2.1 hd ht (fun h => kt h p l e s m args below meth c G A C H locs ls hP hS hl) (fun h => kf h p l e s m args below meth c G A C H locs ls hP hS hl)
theorem hr_icmp_ge {x y : Int32} {off : Int} {tgt : Nat} (hd : decode d.2.1 pc = .ok (.if_icmp .ge off, 3)) (ht : (pc : Int) + off = (tgt : Int)) (kt : y ≤ x → hs_Rn d tgt lv st σ K) (kf : ¬ y ≤ x → hs_Rn d (pc + 3) lv st σ K) : hs_Rn d pc lv (.int y :: .int x :: st) σ K := fun p l e s m args below meth c G A C H locs ls hP hS hl => lv_icmp_ge C.1 C.2.1 hd ht (fun h => kt h p l e s m args below meth c G A C H locs ls hP hS hl) (fun h => kf h p l e s m args below meth c G A C H locs ls hP hS hl)
theorem hr_if_gt {x : Int32} {off : Int} {tgt : Nat} (hd : decode d.2.1 pc = .ok (.ifCond .gt off, 3)) (ht : (pc : Int) + off = (tgt : Int)) (kt : 0 < x → hs_Rn d tgt lv st σ K) (kf : ¬ 0 < x → hs_Rn d (pc + 3) lv st σ K) : hs_Rn d pc lv (.int x :: st) σ K := fun p l e s m args below meth c G A C H locs ls hP hS hl => lv_if_gt C.1 C.2.1 hd ht (fun h => kt h p l e s m args below meth c G A C H locs ls hP hS hl) (fun h => kf h p l e s m args below meth c G A C H locs ls hP hS hl)
theorem hr_icmp_gt {x y : Int32} {off : Int} {tgt : Nat} (hd : decode d.2.1 pc = .ok (.if_icmp .gt off, 3)) (ht : (pc : Int) + off = (tgt : Int)) (kt : y < x → hs_Rn d tgt lv st σ K) (kf : ¬ y < x → hs_Rn d (pc + 3) lv st σ K) : hs_Rn d pc lv (.int y :: .int x :: st) σ K := fun p l e s m args below meth c G A C H locs ls hP hS hl => lv_icmp_gt C.1 C.2.1 hd ht (fun h => kt h p l e s m args below meth c G A C H locs ls hP hS hl) (fun h => kf h p l e s m args below meth c G A C H locs ls hP hS hl)
theorem hr_if_le {x : Int32} {off : Int} {tgt : Nat} (hd : decode d.2.1 pc = .ok (.ifCond .le off, 3)) (ht : (pc : Int) + off = (tgt : Int)) (kt : x ≤ 0 → hs_Rn d tgt lv st σ K) (kf : ¬ x ≤ 0 → hs_Rn d (pc + 3) lv st σ K) : hs_Rn d pc lv (.int x :: st) σ K := fun p l e s m args below meth c G A C H locs ls hP hS hl => lv_if_le C.1 C.2.1 hd ht (fun h => kt h p l e s m args below meth c G A C H locs ls hP hS hl) (fun h => kf h p l e s m args below meth c G A C H locs ls hP hS hl)
theorem hr_icmp_le {x y : Int32} {off : Int} {tgt : Nat} (hd : decode d.2.1 pc = .ok (.if_icmp .le off, 3)) (ht : (pc : Int) + off = (tgt : Int)) (kt : x ≤ y → hs_Rn d tgt lv st σ K) (kf : ¬ x ≤ y → hs_Rn d (pc + 3) lv st σ K) : hs_Rn d pc lv (.int y :: .int x :: st) σ K := fun p l e s m args below meth c G A C H locs ls hP hS hl => lv_icmp_le C.1 C.2.1 hd ht (fun h => kt h p l e s m args below meth c G A C H locs ls hP hS hl) (fun h => kf h p l e s m args below meth c G A C H locs ls hP hS hl)
theorem hr_goto {off : Int} {tgt : Nat} (hd : decode d.2.1 pc = .ok (.goto off, 3)) (ht : (pc : Int) + off = (tgt : Int)) (k : hs_Rn d tgt lv st σ K) : hs_Rn d pc lv st σ K := fun p l e s m args below meth c G A C H locs ls hP hS hl => lv_goto C.1 C.2.1 hd ht (k p l e s m args below meth c G A C H locs ls hP hS hl)
def hs_b (b : Bool) : Int32 := if b then 1 else 0
theorem hs_b0 {b : Bool} : hs_b b = 0 ↔ b = false := by cases b <;> decide
theorem hr_ifb_eq {b : Bool} {off : Int} {tgt : Nat} (hd : decode d.2.1 pc = .ok (.ifCond .eq off, 3)) (ht : (pc : Int) + off = (tgt : Int)) (kt : b = false → hs_Rn d tgt lv st σ K) (kf : b = true → hs_Rn d (pc + 3) lv st σ K) : hs_Rn d pc lv (.int (hs_b b) :: st) σ K :=
  hr_if_eq hd ht (fun h => kt (hs_b0.mp h)) (fun h => kf (by cases b; exact absurd rfl h; rfl))
theorem hr_ifb_ne {b : Bool} {off : Int} {tgt : Nat} (hd : decode d.2.1 pc = .ok (.ifCond .ne off, 3)) (ht : (pc : Int) + off = (tgt : Int)) (kt : b = true → hs_Rn d tgt lv st σ K) (kf : b = false → hs_Rn d (pc + 3) lv st σ K) : hs_Rn d pc lv (.int (hs_b b) :: st) σ K :=
  hr_if_ne hd ht (fun h => kt (by cases b; exact absurd rfl h; rfl)) (fun h => kf (by cases b; rfl; exact absurd h (by decide)))
theorem hr_lif_lt {x y : Int64} {off : Int} {tgt : Nat} (h1 : decode d.2.1 pc = .ok (.lcmp, 1)) (hd : decode d.2.1 (pc + 1) = .ok (.ifCond .lt off, 3)) (ht : ((pc + 1 : Nat) : Int) + off = (tgt : Int)) (kt : x < y → hs_Rn d tgt lv st σ K) (kf : ¬ (x < y) → hs_Rn d (pc + 1 + 3) lv st σ K) : hs_Rn d pc lv (.long y :: .long x :: st) σ K := hr_lcmp h1 (hr_if_lt hd ht (fun h => kt ((lg_cmp_lt x y).mp h)) (fun h => kf (fun g => h ((lg_cmp_lt x y).mpr g))))
theorem hr_lif_ge {x y : Int64} {off : Int} {tgt : Nat} (h1 : decode d.2.1 pc = .ok (.lcmp, 1)) (hd : decode d.2.1 (pc + 1) = .ok (.ifCond .ge off, 3)) (ht : ((pc + 1 : Nat) : Int) + off = (tgt : Int)) (kt : y ≤ x → hs_Rn d tgt lv st σ K) (kf : ¬ (y ≤ x) → hs_Rn d (pc + 1 + 3) lv st σ K) : hs_Rn d pc lv (.long y :: .long x :: st) σ K := hr_lcmp h1 (hr_if_ge hd ht (fun h => kt ((lg_cmp_ge x y).mp h)) (fun h => kf (fun g => h ((lg_cmp_ge x y).mpr g))))
theorem hr_lif_gt {x y : Int64} {off : Int} {tgt : Nat} (h1 : decode d.2.1 pc = .ok (.lcmp, 1)) (hd : decode d.2.1 (pc + 1) = .ok (.ifCond .gt off, 3)) (ht : ((pc + 1 : Nat) : Int) + off = (tgt : Int)) (kt : y < x → hs_Rn d tgt lv st σ K) (kf : ¬ (y < x) → hs_Rn d (pc + 1 + 3) lv st σ K) : hs_Rn d pc lv (.long y :: .long x :: st) σ K := hr_lcmp h1 (hr_if_gt hd ht (fun h => kt ((lg_cmp_gt x y).mp h)) (fun h => kf (fun g => h ((lg_cmp_gt x y).mpr g))))
theorem hr_lif_le {x y : Int64} {off : Int} {tgt : Nat} (h1 : decode d.2.1 pc = .ok (.lcmp, 1)) (hd : decode d.2.1 (pc + 1) = .ok (.ifCond .le off, 3)) (ht : ((pc + 1 : Nat) : Int) + off = (tgt : Int)) (kt : x ≤ y → hs_Rn d tgt lv st σ K) (kf : ¬ (x ≤ y) → hs_Rn d (pc + 1 + 3) lv st σ K) : hs_Rn d pc lv (.long y :: .long x :: st) σ K := hr_lcmp h1 (hr_if_le hd ht (fun h => kt ((lg_cmp_le x y).mp h)) (fun h => kf (fun g => h ((lg_cmp_le x y).mpr g))))
theorem hr_lif_eq {x y : Int64} {off : Int} {tgt : Nat} (h1 : decode d.2.1 pc = .ok (.lcmp, 1)) (hd : decode d.2.1 (pc + 1) = .ok (.ifCond .eq off, 3)) (ht : ((pc + 1 : Nat) : Int) + off = (tgt : Int)) (kt : x = y → hs_Rn d tgt lv st σ K) (kf : ¬ (x = y) → hs_Rn d (pc + 1 + 3) lv st σ K) : hs_Rn d pc lv (.long y :: .long x :: st) σ K := hr_lcmp h1 (hr_if_eq hd ht (fun h => kt ((lg_cmp_eq x y).mp h)) (fun h => kf (fun g => h ((lg_cmp_eq x y).mpr g))))
theorem hr_lif_ne {x y : Int64} {off : Int} {tgt : Nat} (h1 : decode d.2.1 pc = .ok (.lcmp, 1)) (hd : decode d.2.1 (pc + 1) = .ok (.ifCond .ne off, 3)) (ht : ((pc + 1 : Nat) : Int) + off = (tgt : Int)) (kt : ¬ x = y → hs_Rn d tgt lv st σ K) (kf : x = y → hs_Rn d (pc + 1 + 3) lv st σ K) : hs_Rn d pc lv (.long y :: .long x :: st) σ K := hr_lcmp h1 (hr_if_ne hd ht (fun h => kt (fun g => h ((lg_cmp_eq x y).mpr g))) (fun h => kf ((lg_cmp_eq x y).mp (Classical.byContradiction fun g => by first | exact g h | exact h g))))
end HR
end
section
section HR2
variable {d : hs_M} {pc : Nat} {lv : List (Nat × Value)} {st : List Value} {σ : hs_St} {K : Option Value → hs_St → Prop}
theorem hs_u {p : Program} {s : State} {m : MethodId} {args : Array Value} {meth : Method} {c : Code} {G : hs_G} {A : Nat → Prop} (C : hs_Cx d p s m args meth c G A) {w : Cond} (h : w ∈ hs_U) : w.before args s = true :=
  C.2.2.2.2.2.1 w (List.mem_cons_of_mem _ h)
/-- a field's link: own's entry idx names slot j of class number ci -/
def hs_FL (own : String) (idx ci j : Nat) : Prop := ∃ (C : String) (T : u_T) (N : Nat) (ty : Nat → FieldType), vwCl[ci]? = some (C, T, N) ∧ (∀ w ∈ u_ws C T N, w ∈ hs_U) ∧ j < N ∧ Cond.fieldLink own idx C (T j).2.1 (T j).2.2.1 ∈ hs_U ∧ (T j).1 = C ∧ (∀ k, k < N → parseFieldDescriptor (T k).2.2.1 = some (ty k)) ∧ ∀ a, a < N → ∀ b, b < N → a ≠ b → (T a).2.1 ≠ (T b).2.1
/-- a field that may be written: not final, of the type -/
def hs_FW (ci j : Nat) (ty : FieldType) : Prop := ∀ (C : String) (T : u_T) (N : Nat), vwCl[ci]? = some (C, T, N) → (T j).2.2.2 = false ∧ parseFieldDescriptor (T j).2.2.1 = some ty
/-- cell k is an object of class number ci, its slot j holds x -/
def hs_FX (k ci j : Nat) (x : Option (Option Nat)) : Prop := ∃ fd, hs_shape[k]? = some (.inr (ci, fd)) ∧ fd[j]? = some x
/-- cell k is an array of kind t and length n -/
def hs_AX (k t n : Nat) : Prop := hs_shape[k]? = some (.inl (t, n))
def hs_fm (σ : hs_St) (k j : Nat) : Option (Option Nat) → Value
  | none => .int (σ.1 k j)
  | some none => .long (σ.2 j)
  | some (some r) => .ref r
theorem hs_fm_tr (G : hs_G) (σ : hs_St) (k j : Nat) (x : Option (Option Nat)) : hs_tr G.2.2.1 (hs_fm σ k j x) = hs_fv G σ k j x := by
  cases x with
  | none => rfl
  | some y => cases y <;> rfl
theorem hr_get {idx ci j k : Nat} {x : Option (Option Nat)} (hd : decode d.2.1 pc = .ok (.getfield idx, 3)) (hL : hs_FL d.1.cls idx ci j) (hX : hs_FX k ci j x) (kk : hs_Rn d (pc + 3) lv (hs_fm σ k j x :: st) σ K) : hs_Rn d pc lv (.ref k :: st) σ K := by
  intro p l e s m args below meth c G A C H locs ls hP hS hl
  obtain ⟨Cn, T, N, ty, hc, hin, hj, hlink, hT, -, -⟩ := hL
  obtain ⟨fd, hk, hx⟩ := hX
  have hu : ∀ w ∈ hs_U, w.before args s = true := fun w h => hs_u C h
  refine va_get (D := G.1) (cl := vwCl) (ci := ci) (v := hs_fv G σ k j x) (C := Cn) (T := T) (N := N) (ref := Cn) C.1 C.2.1 hu hin C.2.2.2.2.1 C.2.2.2.2.2.2.2.1 hP k (fs := hs_fs G σ k fd) (hs_enc_at hk) hc j hj (hu _ hlink) (by rw [hT]; exact fun _ h => h) (hs_fs_at hx) hd ?_
  rw [← hs_fm_tr]
  exact kk p l e s m args below meth c G A C H locs ls hP hS hl
theorem hr_put {idx ci j k : Nat} {v : Int32} (hd : decode d.2.1 pc = .ok (.putfield idx, 3)) (hL : hs_FL d.1.cls idx ci j) (hX : hs_FX k ci j none) (hW : hs_FW ci j .int) (kk : hs_Rn d (pc + 3) lv st (hs_w σ k j v) K) : hs_Rn d pc lv (.int v :: .ref k :: st) σ K := by
  intro p l e s m args below meth c G A C H locs ls hP hS hl
  obtain ⟨Cn, T, N, ty, hc, hin, hj, hlink, hT, hty, hnm⟩ := hL
  obtain ⟨fd, hk, hx⟩ := hX
  have hu : ∀ w ∈ hs_U, w.before args s = true := fun w h => hs_u C h
  refine va_put (D := G.1) (cl := vwCl) (ci := ci) (v := .int v) (ty := .int) (C := Cn) (T := T) (N := N) (ref := Cn) C.1 C.2.1 hu hin ty hty hnm C.2.2.2.2.1 C.2.2.2.2.2.2.2.1 hP (C.2.2.2.2.2.2.2.2.2.2.2 σ) hS k (fs := hs_fs G σ k fd) (hs_enc_at hk) hc j hj (hu _ hlink) (by rw [hT]; exact fun _ h => h) (hW _ _ _ hc).1 (hW _ _ _ hc).2 rfl rfl ?_ hd (fun H1 locs1 hP1 hD1 hS1 => ?_)
  · exact (List.getElem?_eq_some_iff.mp (hs_fs_at (G := G) (σ := σ) (k := k) hx)).1
  · rw [hs_enc_w hk hx] at hP1
    exact kk p l e s m args below meth c G A C H1 locs1 ls hP1 hS1 hl
theorem hr_putl {idx ci j : Nat} {v : Int64} (hd : decode d.2.1 pc = .ok (.putfield idx, 3)) (hL : hs_FL d.1.cls idx ci j) (hX : hs_FX 63 ci j (some none)) (hW : hs_FW ci j .long) (kk : hs_Rn d (pc + 3) lv st (hs_wl σ j v) K) : hs_Rn d pc lv (.long v :: .ref 63 :: st) σ K := by
  intro p l e s m args below meth c G A C H locs ls hP hS hl
  obtain ⟨Cn, T, N, ty, hc, hin, hj, hlink, hT, hty, hnm⟩ := hL
  obtain ⟨fd, hk, hx⟩ := hX
  have hu : ∀ w ∈ hs_U, w.before args s = true := fun w h => hs_u C h
  refine va_put (D := G.1) (cl := vwCl) (ci := ci) (v := .long v) (ty := .long) (C := Cn) (T := T) (N := N) (ref := Cn) C.1 C.2.1 hu hin ty hty hnm C.2.2.2.2.1 C.2.2.2.2.2.2.2.1 hP (C.2.2.2.2.2.2.2.2.2.2.2 σ) hS 63 (fs := hs_fs G σ 63 fd) (hs_enc_at hk) hc j hj (hu _ hlink) (by rw [hT]; exact fun _ h => h) (hW _ _ _ hc).1 (hW _ _ _ hc).2 rfl rfl ?_ hd (fun H1 locs1 hP1 hD1 hS1 => ?_)
  · exact (List.getElem?_eq_some_iff.mp (hs_fs_at (G := G) (σ := σ) (k := 63) hx)).1
  · rw [hs_enc_wl hk hx] at hP1
    exact kk p l e s m args below meth c G A C H1 locs1 ls hP1 hS1 hl
theorem hs_enc_arr {G : hs_G} {σ : hs_St} {k t n : Nat} (h : hs_AX k t n) (ht : t ≠ 2) : (hs_enc G σ)[k]? = some (G.2.2.1 k, .inl (G.2.1 t, n, .inl (σ.1 k))) := by
  rw [hs_enc_at h]
  simp only [hs_cell, if_neg ht]
theorem hr_iald {k n : Nat} {i : Int32} (hd : decode d.2.1 pc = .ok (.iaload, 1)) (hX : hs_AX k 0 n) (hin : vp_in i n) (kk : hs_Rn d (pc + 1) lv (.int (σ.1 k i.toNatClampNeg) :: st) σ K) : hs_Rn d pc lv (.int i :: .ref k :: st) σ K :=
  fun p l e s m args below meth c G A C H locs ls hP hS hl => va_iald C.1 C.2.1 C.2.2.2.2.2.2.2.1 hP k 0 (hs_enc_arr hX (by decide)) rfl hin hd (kk p l e s m args below meth c G A C H locs ls hP hS hl)
theorem hr_zald {k n : Nat} {i : Int32} (hd : decode d.2.1 pc = .ok (.baload, 1)) (hX : hs_AX k 1 n) (hin : vp_in i n) (kk : hs_Rn d (pc + 1) lv (.int (σ.1 k i.toNatClampNeg) :: st) σ K) : hs_Rn d pc lv (.int i :: .ref k :: st) σ K :=
  fun p l e s m args below meth c G A C H locs ls hP hS hl => va_zald C.1 C.2.1 C.2.2.2.2.2.2.2.1 hP k 1 (hs_enc_arr hX (by decide)) rfl hin hd (kk p l e s m args below meth c G A C H locs ls hP hS hl)
theorem hr_iast {k n : Nat} {i x : Int32} (hd : decode d.2.1 pc = .ok (.iastore, 1)) (hX : hs_AX k 0 n) (hin : vp_in i n) (kk : hs_Rn d (pc + 1) lv st (hs_w σ k i.toNatClampNeg x) K) : hs_Rn d pc lv (.int x :: .int i :: .ref k :: st) σ K := by
  intro p l e s m args below meth c G A C H locs ls hP hS hl
  refine va_iast C.1 C.2.1 C.2.2.2.2.2.2.2.1 hP (C.2.2.2.2.2.2.2.2.2.2.2 σ) hS k 0 (hs_enc_arr hX (by decide)) rfl hin hd (fun H1 locs1 hP1 hD1 hS1 => ?_)
  rw [hs_enc_ua hX (by decide)] at hP1
  exact kk p l e s m args below meth c G A C H1 locs1 ls hP1 hS1 hl
theorem hr_zast {k n : Nat} {i x : Int32} (hd : decode d.2.1 pc = .ok (.bastore, 1)) (hX : hs_AX k 1 n) (hx : vp_nar .boolean x = x) (hin : vp_in i n) (kk : hs_Rn d (pc + 1) lv st (hs_w σ k i.toNatClampNeg x) K) : hs_Rn d pc lv (.int x :: .int i :: .ref k :: st) σ K := by
  intro p l e s m args below meth c G A C H locs ls hP hS hl
  refine va_zast C.1 C.2.1 C.2.2.2.2.2.2.2.1 hP (C.2.2.2.2.2.2.2.2.2.2.2 σ) hS k 1 (hs_enc_arr hX (by decide)) rfl hin hd (fun H1 locs1 hP1 hD1 hS1 => ?_)
  rw [hx, hs_enc_ua hX (by decide)] at hP1
  exact kk p l e s m args below meth c G A C H1 locs1 ls hP1 hS1 hl
theorem hr_alen {k n : Nat} {v : Int32} (hd : decode d.2.1 pc = .ok (.arraylength, 1)) (hX : hs_AX k 0 n) (hv : Int32.ofNat n = v) (kk : hs_Rn d (pc + 1) lv (.int v :: st) σ K) : hs_Rn d pc lv (.ref k :: st) σ K :=
  fun p l e s m args below meth c G A C H locs ls hP hS hl => va_alen C.1 C.2.1 C.2.2.2.2.2.2.2.1 hP k 0 (hs_enc_arr hX (by decide)) rfl hv hd (kk p l e s m args below meth c G A C H locs ls hP hS hl)
/-- the row of images -/
theorem hr_aald {n : Nat} {i : Int32} (hd : decode d.2.1 pc = .ok (.aaload, 1)) (hX : hs_AX 34 2 n) (hin : vp_in i n) (k0 : i.toNatClampNeg = 0 → hs_Rn d (pc + 1) lv (.ref 35 :: st) σ K) (k1 : ¬ i.toNatClampNeg = 0 → hs_Rn d (pc + 1) lv (.ref 46 :: st) σ K) : hs_Rn d pc lv (.int i :: .ref 34 :: st) σ K := by
  intro p l e s m args below meth c G A C H locs ls hP hS hl
  refine va_aldq (C := "HauntSums$Town") (f := fun j => some (G.2.2.1 (hs_img j))) C.1 C.2.1 C.2.2.2.2.2.2.2.1 hP 34 2 ((hs_enc_at hX).trans ?_) rfl hin hd ?_
  · simp only [hs_cell, if_true]
  · by_cases h0 : i.toNatClampNeg = 0
    · have e2 : hs_img i.toNatClampNeg = 35 := by simp [hs_img, h0]
      rw [e2]
      exact k0 h0 p l e s m args below meth c G A C H locs ls hP hS hl
    · have e2 : hs_img i.toNatClampNeg = 46 := by simp [hs_img, h0]
      rw [e2]
      exact k1 h0 p l e s m args below meth c G A C H locs ls hP hS hl
/-! returns -/
theorem hr_iret {v : Int32} (hd : decode d.2.1 pc = .ok (.ireturn, 1)) (hr : d.2.2.2.1 = some .int) (hk : K (some (.int v)) σ) : hs_Rn d pc lv [.int v] σ K := by
  intro p l e s m args below meth c G A C H locs ls hP hS hl
  refine W.iret C.1 C.2.1 (C.2.2.1.trans hr) (fun t ht hW => ⟨⟨some (.int v), σ, rfl, hk, by rw [ht]; exact hP⟩, hS.F ht⟩) hS.2.2 hd C.2.2.2.2.2.2.1
theorem hr_zret {b : Bool} {v : Int32} (hd : decode d.2.1 pc = .ok (.ireturn, 1)) (hr : d.2.2.2.1 = some .boolean) (hv : v = hs_b b) (hk : K (some (.int (hs_b b))) σ) : hs_Rn d pc lv [.int v] σ K := by
  intro p l e s m args below meth c G A C H locs ls hP hS hl
  subst hv
  refine W.zret C.1 C.2.1 (C.2.2.1.trans hr) (by cases b <;> rfl) (fun t ht hW => ⟨⟨some (.int (hs_b b)), σ, rfl, hk, by rw [ht]; exact hP⟩, hS.F ht⟩) hS.2.2 hd C.2.2.2.2.2.2.1
theorem hr_lret {v : Int64} (hd : decode d.2.1 pc = .ok (.lreturn, 1)) (hr : d.2.2.2.1 = some .long) (hk : K (some (.long v)) σ) : hs_Rn d pc lv [.long v] σ K := by
  intro p l e s m args below meth c G A C H locs ls hP hS hl
  refine W.lret C.1 C.2.1 (C.2.2.1.trans hr) (fun t ht hW => ⟨⟨some (.long v), σ, rfl, hk, by rw [ht]; exact hP⟩, hS.F ht⟩) hS.2.2 hd C.2.2.2.2.2.2.1
theorem hr_vret (hd : decode d.2.1 pc = .ok (.return_, 1)) (hr : d.2.2.2.1 = none) (hk : K none σ) : hs_Rn d pc lv [] σ K := by
  intro p l e s m args below meth c G A C H locs ls hP hS hl
  refine W.vret C.1 C.2.1 (C.2.2.1.trans hr) (fun t ht hW => ⟨⟨none, σ, rfl, hk, by rw [ht]; exact hP⟩, hS.F ht⟩) hS.2.2 hd C.2.2.2.2.2.2.1
/-! constants -/
theorem hr_ldc {idx : Nat} {v : Int32} (hd : decode d.2.1 pc = .ok (.ldc idx, 2)) (hw : Cond.constant d.1.cls idx v ∈ hs_U) (k : hs_Rn d (pc + 2) lv (.int v :: st) σ K) : hs_Rn d pc lv st σ K :=
  fun p l e s m args below meth c G A C H locs ls hP hS hl => lv_ldc C.1 C.2.1 C.2.2.2.2.1 (hs_u C hw) hd (k p l e s m args below meth c G A C H locs ls hP hS hl)
theorem hr_ldc2 {idx : Nat} {v : Int64} (hd : decode d.2.1 pc = .ok (.ldc2_w idx, 3)) (hw : Cond.constantLong d.1.cls idx v ∈ hs_U) (k : hs_Rn d (pc + 3) lv (.long v :: st) σ K) : hs_Rn d pc lv st σ K :=
  fun p l e s m args below meth c G A C H locs ls hP hS hl => lv_ldc2 C.1 C.2.1 C.2.2.2.2.1 (hs_u C hw) hd (k p l e s m args below meth c G A C H locs ls hP hS hl)
theorem hr_ldcS {idx i : Nat} {tx : String} (hd : decode d.2.1 pc = .ok (.ldc idx, 2)) (hy : d.1.cls = "HauntSums$Reader") (hw : hs_txt[i]? = some (idx, tx)) (k : hs_Rn d (pc + 2) lv (.ref (1000 + i) :: st) σ K) : hs_Rn d pc lv st σ K := by
  intro p l e s m args below meth c G A C H locs ls hP hS hl
  exact va_ldcS C.1 C.2.1 (hy ▸ C.2.2.2.2.1) (C.2.2.2.2.2.2.2.2.2.1.2.1 i _ hw) hd (k p l e s m args below meth c G A C H locs ls hP hS hl)
/-! Math, arraycopy -/
def hs_mx (x y : Int32) : Int32 := if x < y then y else x
def hs_ab (x : Int32) : Int32 := if 0 ≤ x then x else 0 - x
theorem hr_max {idx : Nat} {x y : Int32} (hd : decode d.2.1 pc = .ok (.invokestatic idx, 3)) (hlink : Cond.methodLink d.1.cls idx Lib.Math.max.name ∈ hs_U) (hs : Cond.static Lib.Math.max.name ∈ hs_U) (hi : Cond.initialized "java/lang/Math" ∈ hs_U) (hc : Cond.code Lib.Math.max.name Lib.Math.max.code 2 (some .int) ∈ hs_U) (hf : 1 ≤ d.2.2.2.2.1) (hm : (st.map fun v => v.category).sum + 13 ≤ d.2.2.2.2.2) (k : hs_Rn d (pc + 3) lv (.int (hs_mx x y) :: st) σ K) : hs_Rn d pc lv (.int y :: .int x :: st) σ K := by
  intro p l e s m args below meth c G A C H locs ls hP hS hl
  exact va_mmax C.1 C.2.1 (C.2.2.2.1.trans hl.1.symm) C.2.2.2.2.1 (hs_u C hlink) (hs_u C hs) (hs_u C hi) (hs_u C hc) hf (by rw [hs_tr_sum]; exact hm) (Nat.le_refl _) (Nat.le_refl _) hd (k p l e s m args below meth c G A C H locs ls hP hS hl)
theorem hr_abs {idx : Nat} {x : Int32} (hd : decode d.2.1 pc = .ok (.invokestatic idx, 3)) (hlink : Cond.methodLink d.1.cls idx Lib.Math.abs.name ∈ hs_U) (hs : Cond.static Lib.Math.abs.name ∈ hs_U) (hi : Cond.initialized "java/lang/Math" ∈ hs_U) (hc : Cond.code Lib.Math.abs.name Lib.Math.abs.code 1 (some .int) ∈ hs_U) (hf : 1 ≤ d.2.2.2.2.1) (hm : (st.map fun v => v.category).sum + 13 ≤ d.2.2.2.2.2) (k : hs_Rn d (pc + 3) lv (.int (hs_ab x) :: st) σ K) : hs_Rn d pc lv (.int x :: st) σ K := by
  intro p l e s m args below meth c G A C H locs ls hP hS hl
  exact va_mabs C.1 C.2.1 (C.2.2.2.1.trans hl.1.symm) C.2.2.2.2.1 (hs_u C hlink) (hs_u C hs) (hs_u C hi) (hs_u C hc) hf (by rw [hs_tr_sum]; exact hm) (Nat.le_refl _) (Nat.le_refl _) hd (k p l e s m args below meth c G A C H locs ls hP hS hl)
/-- arraycopy of a whole row of n from place 0 to place 0 -/
theorem hr_copy {idx k0 k1 n : Nat} {z : Int32} (hd : decode d.2.1 pc = .ok (.invokestatic idx, 3)) (hlink : Cond.methodLink d.1.cls idx arraycopyName ∈ hs_U) (hn : Cond.native arraycopyName ∈ hs_U) (hs : Cond.static arraycopyName ∈ hs_U) (hi : Cond.initialized "java/lang/System" ∈ hs_U) (h0 : hs_AX k0 0 n) (h1 : hs_AX k1 0 n) (hz : z.toNatClampNeg = n) (hz0 : ¬ z < 0) (hf : 1 ≤ d.2.2.2.2.1) (hm : (st.map fun v => v.category).sum + (nativeFrameWords "java/lang/System" "arraycopy" 5 + 11) ≤ d.2.2.2.2.2) (k : hs_Rn d (pc + 3) lv st (hs_ua σ k1 (va_cpy (σ.1 k0) (σ.1 k1) 0 0 n)) K) : hs_Rn d pc lv (.int z :: .int 0 :: .ref k1 :: .int 0 :: .ref k0 :: st) σ K := by
  intro p l e s m args below meth c G A C H locs ls hP hS hl
  have e0 : (0 : Int32).toNatClampNeg = 0 := by decide
  refine va_copyi C.1 C.2.1 (C.2.2.2.1.trans hl.1.symm) C.2.2.2.2.1 (hs_u C hlink) (hs_u C hn) (hs_u C hs) (hs_u C hi) C.2.2.2.2.2.2.2.1 hP (C.2.2.2.2.2.2.2.2.2.2.2 σ) hS k0 k1 0 0 (ty := .int) (hs_enc_arr h0 (by decide)) (hs_enc_arr h1 (by decide)) rfl rfl rfl (by decide) (by decide) hz0 (by rw [hz, e0]; omega) (by rw [hz, e0]; omega) (fun i _ => rfl) hf (by rw [hs_tr_sum]; exact hm) hd (fun H1 locs1 hP1 hD1 hS1 => ?_)
  rw [hz, e0, hs_enc_ua h1 (by decide)] at hP1
  exact k p l e s m args below meth c G A C H1 locs1 ls hP1 hS1 hl
/-! calls -/
theorem hw_call {p : Program} {l : Launch} {e : Env} {R : Room} {s : State} {m : MethodId} {args : Array Value} {below : List Frame} {meth : Method} {c : Code} {H : Heap} {locs : List Loc} {cells slots : Nat} {Q : State → Prop} {G : hs_G} {A A1 free : Nat → Prop} {K' : Option Value → hs_St → Prop} {a : Array Value} {pc : Nat} {ls : Array Slot} {st0 rest : List Value} {H0 : Heap}
    (hr : va_Run p l e R s m args below meth c H locs cells slots 0 0 (F0 m pc ls st0) rest (hs_Qc G A1 K' a) free) (hS : va_S A H0 H locs) (hA : ∀ q, A1 q → A q) (hf : ∀ q, free q → A q)
    (kk : ∀ (r : Option Value) (τ : hs_St) (H1 : Heap) (locs1 : List Loc), K' r τ → va_P G.1 vwCl (hs_enc G τ) H1 → va_S A H0 H1 locs1 → W p l e R s m args below meth c H1 locs1 cells slots Q (F0 m (pc + 3) ls ((r.map (hs_tr G.2.2.1)).toList ++ rest))) : W p l e R s m args below meth c H locs cells slots Q (F0 m pc ls st0) := by
  intro T hT X
  obtain ⟨v, st₀, t, T', L, h0, X', hL, e1, e2, ⟨⟨r, τ, hv, hp, hb⟩, hz, hk⟩, st⟩ := hr T hT X
  cases hv
  rw [h0] at hz hk
  obtain ⟨t2, a1, b1⟩ := kk r τ T'.heap (locs ++ L) hp (by rw [e1]; exact hb)
    ⟨Nat.le_trans hS.1 (by rw [e1]; exact hz), fun q h1 h2 => by rw [e1, hk q (Nat.lt_of_lt_of_le h1 hS.1) (fun z => h2 (hA q z))]; exact hS.2.1 q h1 h2, fun q hq => by
      rcases List.mem_append.mp hq with h | h
      · exact hS.2.2 q h
      · exact hf _ (hL q h)⟩ T' rfl X'
  exact ⟨t2, st t2 a1, b1⟩
theorem hs_blind {G : hs_G} {σ : hs_St} {av : List Value} {sz : Nat} : FrameBlind (hs_Pc G σ av sz) := by
  intro a U g mk q
  obtain ⟨q0, q1, qP, qK, qD, qN, qX⟩ := q
  exact ⟨q0, q1, qP, va_K.moved (u := U) (U := U.calling g mk a) (Vm.Alike.refl U.vm) qK, qD, hs_N.same (u := U) (U := U.calling g mk a) rfl qN, hs_X.same (u := U) (U := U.calling g mk a) rfl qX⟩
theorem hs_pre {p : Program} {s : State} {m : MethodId} {args : Array Value} {meth : Method} {c : Code} {G : hs_G} {A : Nat → Prop} {H : Heap} {locs : List Loc} (C : hs_Cx d p s m args meth c G A) (hP : va_P G.1 vwCl (hs_enc G σ) H) (hS : va_S A s.heap H locs) (av : List Value) (U : State) (hU : U.heap = H) (hW : s.WarmedH U.vm) : hs_Pc G σ av H.size (av.map (hs_tr G.2.2.1)).toArray U := by
  obtain ⟨-, -, -, -, -, -, -, hK, hN, hX, hA, hD⟩ := C
  have hsub : ∀ q, va_A (hs_enc G σ) H.size q → A q := by
    intro q h
    rcases h with ⟨k, e, h⟩ | h
    · exact (hD σ).2 k (q, e) h
    · exact hA q (Nat.le_trans hS.1 h)
  refine ⟨rfl, by rw [hU], by rw [hU]; exact hP, va_K.moved hW.alike hK, (hD σ).weaken (fun _ _ _ _ => trivial), hN.warm hW, ?_⟩
  rw [hU]
  exact ((hX.kept (fun a h1 h2 => hS.2.1 a h1 h2)).narrow hsub).warm hW
theorem hs_sub {p : Program} {s : State} {m : MethodId} {args : Array Value} {meth : Method} {c : Code} {G : hs_G} {A : Nat → Prop} {H : Heap} {locs : List Loc} (C : hs_Cx d p s m args meth c G A) (hS : va_S A s.heap H locs) : ∀ q, va_A (hs_enc G σ) H.size q → A q := by
  obtain ⟨-, -, -, -, -, -, -, hK, hN, hX, hA, hD⟩ := C
  intro q h
  rcases h with ⟨k, e, h⟩ | h
  · exact (hD σ).2 k (q, e) h
  · exact hA q (Nat.le_trans hS.1 h)
/-- what the tables say of a method that is called -/
def hs_CM (y : hs_M) (n : Nat) : Prop := Cond.code y.1 y.2.1 y.2.2.1 y.2.2.2.1 ∈ hs_U ∧ Cond.initialized y.1.cls ∈ hs_U ∧ y.1.cls ≠ "java/lang/invoke/MethodHandle" ∧ y.1.cls ≠ "java/lang/invoke/VarHandle" ∧ (parseMethodDescriptor y.1.desc).map (fun d => d.parameters.length) = some n
def hs_CV (y : hs_M) : Prop := Cond.instanceMethod y.1 ∈ hs_U ∧ Cond.selects y.1.cls y.1 y.1 ∈ hs_U
def hs_fits (d y : hs_M) (st : List Value) : Prop := y.2.2.2.2.1 + 1 ≤ d.2.2.2.2.1 ∧ 8 + (y.2.2.1 + 11) + y.2.2.2.2.2 ≤ d.2.2.2.2.2 ∧ (st.map fun v => v.category).sum ≤ 8
theorem hs_goodIn (d y : hs_M) (h : Cond.code y.1 y.2.1 y.2.2.1 y.2.2.2.1 ∈ hs_U) : GoodIn (hs_ws d) (hs_ws y) := by
  intro w hw
  have h1 : w ∈ hs_U := by
    rcases List.mem_cons.mp hw with h2 | h2
    · rw [h2]; exact h
    · exact h2
  exact ⟨List.mem_cons_of_mem _ h1, hs_good w h1⟩
theorem hs_callB {p : Program} {s : State} {m : MethodId} {args : Array Value} {meth : Method} {c : Code} {G : hs_G} {A : Nat → Prop} (C : hs_Cx d p s m args meth c G A) {y : hs_M} {idx n : Nat} (hl : Cond.methodLink d.1.cls idx y.1 ∈ hs_U) (hm : hs_CM y n) {st : List Value} (hf : hs_fits d y st) : CallB (hs_rm d) s args d.1.cls idx y.1 y.2.1 y.2.2.1 y.2.2.2.1 (hs_ws y) (hs_rm y) 0 0 n :=
  callB_of n C.2.2.2.2.2.1 (hs_goodIn d y hm.1) rfl rfl rfl (hs_u C hm.2.1) (hs_u C hl) hm.2.2 ⟨hf.1, hf.2.1⟩
theorem hs_recv {p : Program} {s : State} {m : MethodId} {args : Array Value} {meth : Method} {c : Code} {G : hs_G} {A : Nat → Prop} (C : hs_Cx d p s m args meth c G A) {H : Heap} (hP : va_P G.1 vwCl (hs_enc G σ) H) {k ci : Nat} {fd : List (Option (Option Nat))} (hk : hs_shape[k]? = some (.inr (ci, fd))) {Cn : String} (hc : (vwCl[ci]?.map (·.1)) = some Cn) : ∃ cell : Cell, H[G.2.2.1 k]? = some cell ∧ cell.vm.isStatics = false ∧ s.vm.findClass Cn = some cell.cls := by
  cases hq : vwCl[ci]? with
  | none => rw [hq] at hc; cases hc
  | some q =>
    rw [hq] at hc
    obtain ⟨cell, h1, h2, h3⟩ := va_recv C.2.2.2.2.2.2.2.1 hP hq (hs_enc_at hk)
    cases hc
    exact ⟨cell, h1, h2, h3⟩
theorem hr_callV {y : hs_M} {idx n k ci : Nat} {As : List Value} {fd : List (Option (Option Nat))} (hd : decode d.2.1 pc = .ok (.invokevirtual idx, 3)) (hl : Cond.methodLink d.1.cls idx y.1 ∈ hs_U) (hm : hs_CM y n) (hv : hs_CV y) (hn : As.length = n) (hf : hs_fits d y st) (hk : hs_shape[k]? = some (.inr (ci, fd))) (hc : (vwCl[ci]?.map (·.1)) = some y.1.cls)
    (h : hs_Ok y (.ref k :: As) σ (fun r τ => hs_Rn d (pc + 3) lv (r.toList ++ st) τ K)) : hs_Rn d pc lv (As.reverse ++ .ref k :: st) σ K := by
  intro p l e s m args below meth c G A C H locs ls hP hS hl0
  have hCW : CallW (hs_rm d) s args d.1.cls y.1.cls idx y.1 y.2.1 y.2.2.1 y.2.2.2.1 (hs_ws y) (hs_rm y) 0 0 n := ⟨hs_callB C hl hm hf, hs_u C hv.1, hs_u C hv.2⟩
  refine hw_call (G := G) (A := A) (va_runV (As := As.map (hs_tr G.2.2.1)) (rest := st.map (hs_tr G.2.2.1)) ⟨C.1, C.2.1, C.2.2.2.1, C.2.2.2.2.1, C.2.2.2.2.2.1⟩ (h l G H.size) hCW ⟨hs_blind, hs_recv C hP hk hc, fun U hU hW => hs_pre C hP hS (.ref k :: As) U hU hW⟩ rfl (by rw [List.length_map]; exact hn) hl0.1 (by simp [hs_tr]) (lv_room (by rw [hs_tr_sum]; exact hf.2.2)) hd ⟨Nat.zero_le _, Nat.zero_le _⟩) hS (hs_sub C hS) (hs_sub C hS) (fun r τ H1 locs1 hK' hP1 hS1 => ?_)
  have e1 : (r.map (hs_tr G.2.2.1)).toList ++ st.map (hs_tr G.2.2.1) = (r.toList ++ st).map (hs_tr G.2.2.1) := by cases r <;> simp
  rw [e1]
  exact hK' p l e s m args below meth c G A C H1 locs1 ls hP1 hS1 hl0
theorem hr_callS {y : hs_M} {idx n : Nat} {As : List Value} (hd : decode d.2.1 pc = .ok (.invokestatic idx, 3)) (hl : Cond.methodLink d.1.cls idx y.1 ∈ hs_U) (hm : hs_CM y n) (hv : Cond.static y.1 ∈ hs_U) (hn : As.length = n) (hf : hs_fits d y st)
    (h : hs_Ok y As σ (fun r τ => hs_Rn d (pc + 3) lv (r.toList ++ st) τ K)) : hs_Rn d pc lv (As.reverse ++ st) σ K := by
  intro p l e s m args below meth c G A C H locs ls hP hS hl0
  refine hw_call (G := G) (A := A) (va_runS (As := As.map (hs_tr G.2.2.1)) (rest := st.map (hs_tr G.2.2.1)) ⟨C.1, C.2.1, C.2.2.2.1, C.2.2.2.2.1, C.2.2.2.2.2.1⟩ (h l G H.size) ⟨hs_callB C hl hm hf, hs_u C hv⟩ ⟨hs_blind, fun U hU hW => hs_pre C hP hS As U hU hW⟩ rfl (by rw [List.length_map]; exact hn) hl0.1 (by simp) (lv_room (by rw [hs_tr_sum]; exact hf.2.2)) hd ⟨Nat.zero_le _, Nat.zero_le _⟩) hS (hs_sub C hS) (hs_sub C hS) (fun r τ H1 locs1 hK' hP1 hS1 => ?_)
  have e1 : (r.map (hs_tr G.2.2.1)).toList ++ st.map (hs_tr G.2.2.1) = (r.toList ++ st).map (hs_tr G.2.2.1) := by cases r <;> simp
  rw [e1]
  exact hK' p l e s m args below meth c G A C H1 locs1 ls hP1 hS1 hl0
theorem hr_callN {y : hs_M} {idx n : Nat} {As : List Value} {host : String} (hd : decode d.2.1 pc = .ok (.invokestatic idx, 3)) (hl : Cond.methodLinkNest d.1.cls idx y.1 host ∈ hs_nest) (hm : hs_CM y n) (hv : Cond.static y.1 ∈ hs_U) (hn : As.length = n) (hf : hs_fits d y st)
    (h : hs_Ok y As σ (fun r τ => hs_Rn d (pc + 3) lv (r.toList ++ st) τ K)) : hs_Rn d pc lv (As.reverse ++ st) σ K := by
  intro p l e s m args below meth c G A C H locs ls hP hS hl0
  have hCN : va_CN (hs_rm d) s args d.1.cls idx y.1 host y.2.1 y.2.2.1 y.2.2.2.1 (hs_ws y) (hs_rm y) 0 0 n := va_cnB n C.2.2.2.2.2.1 (hs_goodIn d y hm.1) rfl rfl rfl (C.2.2.2.2.2.2.2.2.1 _ hl) (hs_u C hm.2.1) hm.2.2 ⟨hf.1, hf.2.1⟩
  refine hw_call (G := G) (A := A) (va_runSN (As := As.map (hs_tr G.2.2.1)) (rest := st.map (hs_tr G.2.2.1)) ⟨C.1, C.2.1, C.2.2.2.1, C.2.2.2.2.1, C.2.2.2.2.2.1⟩ (h l G H.size) ⟨hCN, hs_u C hv, trivial⟩ ⟨hs_blind, fun U hU hW => hs_pre C hP hS As U hU hW⟩ rfl (by rw [List.length_map]; exact hn) hl0.1 (by simp) (lv_room (by rw [hs_tr_sum]; exact hf.2.2)) hd ⟨Nat.zero_le _, Nat.zero_le _⟩) hS (hs_sub C hS) (hs_sub C hS) (fun r τ H1 locs1 hK' hP1 hS1 => ?_)
  have e1 : (r.map (hs_tr G.2.2.1)).toList ++ st.map (hs_tr G.2.2.1) = (r.toList ++ st).map (hs_tr G.2.2.1) := by cases r <;> simp
  rw [e1]
  exact hK' p l e s m args below meth c G A C H1 locs1 ls hP1 hS1 hl0
/-! tableswitch -/
theorem hr_tab {dflt lo hi : Int} {offs : Array Int} {len : Nat} {x : Int32} (hd : decode d.2.1 pc = .ok (.tableswitch dflt lo hi offs, len)) (hs : (offs.size : Int) = hi - lo + 1) (tgt : Nat → Nat) (tg : Nat) (ht : ∀ j : Nat, j < offs.size → ∃ off, offs[j]? = some off ∧ (pc : Int) + off = (tgt j : Int)) (ht0 : (pc : Int) + dflt = (tg : Int))
    (kin : ∀ j : Nat, j < offs.size → x.toInt = lo + j → hs_Rn d (tgt j) lv st σ K) (kout : (x.toInt < lo ∨ hi < x.toInt) → hs_Rn d tg lv st σ K) : hs_Rn d pc lv (.int x :: st) σ K := by
  intro p l e s m args below meth c G A C H locs ls hP hS hl
  by_cases h : x.toInt < lo ∨ hi < x.toInt
  · exact lv_tableOut C.1 C.2.1 hd h ht0 (kout h p l e s m args below meth c G A C H locs ls hP hS hl)
  · have h1 : ¬ x.toInt < lo := fun q => h (Or.inl q)
    have h2 : ¬ hi < x.toInt := fun q => h (Or.inr q)
    have hj : (x.toInt - lo).toNat < offs.size := by omega
    obtain ⟨off, ho, he⟩ := ht _ hj
    exact lv_tableIn C.1 C.2.1 hd h1 h2 ho he (kin _ hj (by omega) p l e s m args below meth c G A C H locs ls hP hS hl)
end HR2
/-! typed contracts -/
def hs_KI (K : Int32 → hs_St → Prop) : Option Value → hs_St → Prop := fun o τ => ∃ r, o = some (.int r) ∧ K r τ
def hs_KB (K : Bool → hs_St → Prop) : Option Value → hs_St → Prop := fun o τ => ∃ r, o = some (.int (hs_b r)) ∧ K r τ
def hs_KL (K : Int64 → hs_St → Prop) : Option Value → hs_St → Prop := fun o τ => ∃ r, o = some (.long r) ∧ K r τ
def hs_KV (K : hs_St → Prop) : Option Value → hs_St → Prop := fun o τ => o = none ∧ K τ
abbrev OkI (d : hs_M) (av : List Value) (σ : hs_St) (K : Int32 → hs_St → Prop) : Prop := hs_Ok d av σ (hs_KI K)
abbrev OkB (d : hs_M) (av : List Value) (σ : hs_St) (K : Bool → hs_St → Prop) : Prop := hs_Ok d av σ (hs_KB K)
abbrev OkL (d : hs_M) (av : List Value) (σ : hs_St) (K : Int64 → hs_St → Prop) : Prop := hs_Ok d av σ (hs_KL K)
abbrev OkV (d : hs_M) (av : List Value) (σ : hs_St) (K : hs_St → Prop) : Prop := hs_Ok d av σ (hs_KV K)
abbrev RnI (d : hs_M) (pc : Nat) (lv : List (Nat × Value)) (st : List Value) (σ : hs_St) (K : Int32 → hs_St → Prop) : Prop := hs_Rn d pc lv st σ (hs_KI K)
abbrev RnB (d : hs_M) (pc : Nat) (lv : List (Nat × Value)) (st : List Value) (σ : hs_St) (K : Bool → hs_St → Prop) : Prop := hs_Rn d pc lv st σ (hs_KB K)
abbrev RnL (d : hs_M) (pc : Nat) (lv : List (Nat × Value)) (st : List Value) (σ : hs_St) (K : Int64 → hs_St → Prop) : Prop := hs_Rn d pc lv st σ (hs_KL K)
abbrev RnV (d : hs_M) (pc : Nat) (lv : List (Nat × Value)) (st : List Value) (σ : hs_St) (K : hs_St → Prop) : Prop := hs_Rn d pc lv st σ (hs_KV K)
theorem OkI.go {d : hs_M} {av : List Value} {σ : hs_St} {K : Int32 → hs_St → Prop} {K' : Option Value → hs_St → Prop} (h : OkI d av σ K) (f : ∀ r τ, K r τ → K' (some (.int r)) τ) : hs_Ok d av σ K' := hs_Ok.mono h (fun o τ ⟨r, e, hk⟩ => by subst e; exact f r τ hk)
theorem OkB.go {d : hs_M} {av : List Value} {σ : hs_St} {K : Bool → hs_St → Prop} {K' : Option Value → hs_St → Prop} (h : OkB d av σ K) (f : ∀ r τ, K r τ → K' (some (.int (hs_b r))) τ) : hs_Ok d av σ K' := hs_Ok.mono h (fun o τ ⟨r, e, hk⟩ => by subst e; exact f r τ hk)
theorem OkL.go {d : hs_M} {av : List Value} {σ : hs_St} {K : Int64 → hs_St → Prop} {K' : Option Value → hs_St → Prop} (h : OkL d av σ K) (f : ∀ r τ, K r τ → K' (some (.long r)) τ) : hs_Ok d av σ K' := hs_Ok.mono h (fun o τ ⟨r, e, hk⟩ => by subst e; exact f r τ hk)
theorem OkV.go {d : hs_M} {av : List Value} {σ : hs_St} {K : hs_St → Prop} {K' : Option Value → hs_St → Prop} (h : OkV d av σ K) (f : ∀ τ, K τ → K' none τ) : hs_Ok d av σ K' := hs_Ok.mono h (fun o τ ⟨e, hk⟩ => by subst e; exact f τ hk)
theorem OkI.mono {d : hs_M} {av : List Value} {σ : hs_St} {K K' : Int32 → hs_St → Prop} (h : OkI d av σ K) (f : ∀ r τ, K r τ → K' r τ) : OkI d av σ K' := OkI.go h (fun r τ hk => ⟨r, rfl, f r τ hk⟩)
theorem OkB.mono {d : hs_M} {av : List Value} {σ : hs_St} {K K' : Bool → hs_St → Prop} (h : OkB d av σ K) (f : ∀ r τ, K r τ → K' r τ) : OkB d av σ K' := OkB.go h (fun r τ hk => ⟨r, rfl, f r τ hk⟩)
theorem OkL.mono {d : hs_M} {av : List Value} {σ : hs_St} {K K' : Int64 → hs_St → Prop} (h : OkL d av σ K) (f : ∀ r τ, K r τ → K' r τ) : OkL d av σ K' := OkL.go h (fun r τ hk => ⟨r, rfl, f r τ hk⟩)
theorem OkV.mono {d : hs_M} {av : List Value} {σ : hs_St} {K K' : hs_St → Prop} (h : OkV d av σ K) (f : ∀ τ, K τ → K' τ) : OkV d av σ K' := OkV.go h (fun τ hk => ⟨rfl, f τ hk⟩)
end
section
theorem hs_tb {b : ByteArray} {t : List (Nat × Instr × Nat)} (h : ∀ q ∈ t, decode b q.1 = .ok q.2) (i : Nat) {pc : Nat} {ins : Instr} {n : Nat} (hi : t[i]? = some (pc, ins, n)) : decode b pc = .ok (ins, n) := h (pc, ins, n) (List.mem_of_getElem? hi)
theorem hs_t0 {w : Cond} (i : Nat) (h : (k2_sels lw_privs)[i]? = some w) (g : goodWord w = true) : w ∈ hs_U := List.mem_filter.mpr ⟨List.mem_append_left _ (List.mem_of_getElem? h), g⟩
theorem hs_t1 {w : Cond} (i : Nat) (h : tables_1_1[i]? = some w) (g : goodWord w = true) : w ∈ hs_U := List.mem_filter.mpr ⟨List.mem_append_right _ (List.mem_append_left _ (List.mem_of_getElem? h)), g⟩
theorem hs_t2 {w : Cond} (i : Nat) (h : tables_1_2[i]? = some w) (g : goodWord w = true) : w ∈ hs_U := List.mem_filter.mpr ⟨List.mem_append_right _ (List.mem_append_right _ (List.mem_append_left _ (List.mem_of_getElem? h))), g⟩
theorem hs_t3 {w : Cond} (i : Nat) (h : tables_1_3[i]? = some w) (g : goodWord w = true) : w ∈ hs_U := List.mem_filter.mpr ⟨List.mem_append_right _ (List.mem_append_right _ (List.mem_append_right _ (List.mem_append_left _ (List.mem_of_getElem? h)))), g⟩
theorem hs_t4 {w : Cond} (i : Nat) (h : tables_1_4[i]? = some w) (g : goodWord w = true) : w ∈ hs_U := List.mem_filter.mpr ⟨List.mem_append_right _ (List.mem_append_right _ (List.mem_append_right _ (List.mem_append_right _ (List.mem_append_left _ (List.mem_of_getElem? h))))), g⟩
theorem hs_t5 {w : Cond} (i : Nat) (h : tables_1_5[i]? = some w) (g : goodWord w = true) : w ∈ hs_U := List.mem_filter.mpr ⟨List.mem_append_right _ (List.mem_append_right _ (List.mem_append_right _ (List.mem_append_right _ (List.mem_append_right _ (List.mem_of_getElem? h))))), g⟩
def m_X0_takeAll : hs_M := (⟨RX0, "takeAll", "()I"⟩, prog_2_method_2_code, 2, (some .int), 8, 169)
def m_X0_tellDone : hs_M := (⟨RX0, "tellDone", "()V"⟩, prog_2_method_3_code, 2, none, 2, 43)
def m_X0_takeLine : hs_M := (⟨RX0, "takeLine", "()Z"⟩, prog_2_method_4_code, 2, (some .boolean), 7, 148)
def m_X0_sortOfLine : hs_M := (⟨RX0, "sortOfLine", "()I"⟩, prog_2_method_5_code, 1, (some .int), 6, 128)
def m_X0_isNamed : hs_M := (⟨RX0, "isNamed", "(Ljava/lang/String;)Z"⟩, prog_2_method_6_code, 3, (some .boolean), 5, 106)
def m_X0_takeGhost : hs_M := (⟨RX0, "takeGhost", "(I)Z"⟩, prog_2_method_7_code, 4, (some .boolean), 3, 66)
def m_X0_takeDone : hs_M := (⟨RX0, "takeDone", "()Z"⟩, prog_2_method_8_code, 2, (some .boolean), 3, 66)
def m_X0_takeClerk : hs_M := (⟨RX0, "takeClerk", "()Z"⟩, prog_2_method_9_code, 2, (some .boolean), 3, 66)
def m_X0_takeNumber : hs_M := (⟨RX0, "takeNumber", "(II)Z"⟩, prog_2_method_10_code, 3, (some .boolean), 2, 44)
def m_X0_takeSemicolon : hs_M := (⟨RX0, "takeSemicolon", "()Z"⟩, prog_2_method_11_code, 1, (some .boolean), 2, 44)
def m_X0_nextToken : hs_M := (⟨RX0, "nextToken", "()Z"⟩, prog_2_method_12_code, 3, (some .boolean), 1, 22)
def m_X0_passRun : hs_M := (⟨RX0, "passRun", "(II)V"⟩, prog_2_method_13_code, 3, none, 0, 0)
def m_X0_refuse : hs_M := (⟨RX0, "refuse", "(II)Z"⟩, prog_2_method_14_code, 3, (some .boolean), 0, 0)
def m_X1_isOne : hs_M := (⟨RX1, "isOne", "(I)Z"⟩, prog_3_method_2_code, 2, (some .boolean), 1, 22)
def m_X1_isLane : hs_M := (⟨RX1, "isLane", "(I)Z"⟩, prog_3_method_3_code, 2, (some .boolean), 1, 22)
def m_X1_isNothing : hs_M := (⟨RX1, "isNothing", "(I)Z"⟩, prog_3_method_4_code, 2, (some .boolean), 0, 0)
def m_X1_renew : hs_M := (⟨RX1, "renew", "(III)V"⟩, prog_3_method_5_code, 5, none, 0, 0)
def m_X1_faultOf : hs_M := (⟨RX1, "faultOf", "(III)I"⟩, prog_3_method_6_code, 4, (some .int), 1, 22)
def m_X1_faultOfPair : hs_M := (⟨RX1, "faultOfPair", "(III)I"⟩, prog_3_method_7_code, 5, (some .int), 2, 45)
def m_X1_cell : hs_M := (⟨RX1, "cell", "(II)I"⟩, prog_3_method_8_code, 3, (some .int), 0, 0)
def m_X1_put : hs_M := (⟨RX1, "put", "(III)V"⟩, prog_3_method_9_code, 5, none, 0, 0)
def m_X3_empty : hs_M := (⟨RX3, "empty", "()V"⟩, prog_5_method_2_code, 1, none, 0, 0)
def m_X3_become : hs_M := (⟨RX3, "become", "(LHauntSums$Town;)V"⟩, prog_5_method_3_code, 2, none, 1, 26)
def m_X3_hasGhost : hs_M := (⟨RX3, "hasGhost", "(I)Z"⟩, prog_5_method_4_code, 2, (some .boolean), 1, 22)
def m_X3_hasClerk : hs_M := (⟨RX3, "hasClerk", "(I)Z"⟩, prog_5_method_5_code, 2, (some .boolean), 1, 22)
def m_X3_addGhost : hs_M := (⟨RX3, "addGhost", "(IIII)V"⟩, prog_5_method_6_code, 5, none, 0, 0)
def m_X3_addClerk : hs_M := (⟨RX3, "addClerk", "(II)V"⟩, prog_5_method_7_code, 3, none, 0, 0)
def m_X3_told : hs_M := (⟨RX3, "told", "(II)I"⟩, prog_5_method_8_code, 3, (some .int), 0, 0)
def m_X3_tell : hs_M := (⟨RX3, "tell", "(III)V"⟩, prog_5_method_9_code, 4, none, 0, 0)
def m_X3_answer : hs_M := (⟨RX3, "answer", "(I)I"⟩, prog_5_method_10_code, 2, (some .int), 2, 43)
def m_X3_steps : hs_M := (⟨RX3, "steps", "(I)I"⟩, prog_5_method_11_code, 2, (some .int), 3, 64)
def m_X3_left : hs_M := (⟨RX3, "left", "(I)I"⟩, prog_5_method_12_code, 2, (some .int), 4, 85)
def m_X3_creaks : hs_M := (⟨RX3, "creaks", "(I)I"⟩, prog_5_method_13_code, 2, (some .int), 3, 64)
def m_X3_creaksOfAll : hs_M := (⟨RX3, "creaksOfAll", "()I"⟩, prog_5_method_14_code, 3, (some .int), 4, 85)
def m_X3_skillOfAll : hs_M := (⟨RX3, "skillOfAll", "()I"⟩, prog_5_method_15_code, 3, (some .int), 0, 0)
def m_X3_lastSeenBehind : hs_M := (⟨RX3, "lastSeenBehind", "()I"⟩, prog_5_method_16_code, 3, (some .int), 1, 21)
def m_X3_agrees : hs_M := (⟨RX3, "agrees", "(LHauntSums$Walk;I)Z"⟩, prog_5_method_17_code, 4, (some .boolean), 0, 0)
def m_X3_settle : hs_M := (⟨RX3, "settle", "(LHauntSums$Walk;I)V"⟩, prog_5_method_18_code, 4, none, 5, 106)
def m_X4_begin : hs_M := (⟨RX4, "begin", "(LHauntSums$Town;)V"⟩, prog_6_method_2_code, 3, none, 3, 71)
def m_X4_reckon : hs_M := (⟨RX4, "reckon", "(IIIII)V"⟩, prog_6_method_3_code, 7, none, 2, 45)
def m_X4_go : hs_M := (⟨RX4, "go", "(I)V"⟩, prog_6_method_4_code, 3, none, 3, 65)
def m_X4_goOneNight : hs_M := (⟨RX4, "goOneNight", "()V"⟩, prog_6_method_5_code, 2, none, 2, 44)
def m_X4_work : hs_M := (⟨RX4, "work", "(II)V"⟩, prog_6_method_6_code, 4, none, 1, 21)
def m_X4_tillRest : hs_M := (⟨RX4, "tillRest", "(II)I"⟩, prog_6_method_7_code, 4, (some .int), 3, 65)
def m_X4_resting : hs_M := (⟨RX4, "resting", "()I"⟩, prog_6_method_8_code, 3, (some .int), 0, 0)
def m_X4_leftOfAll : hs_M := (⟨RX4, "leftOfAll", "()I"⟩, prog_6_method_9_code, 3, (some .int), 0, 0)
def m_X5_feed : hs_M := (⟨RX5, "feed", "(I)I"⟩, prog_1_method_2_code, 2, (some .int), 1, 22)
def m_X5_end : hs_M := (⟨RX5, "end", "(I)I"⟩, prog_1_method_3_code, 3, (some .int), 1, 22)
def m_X5_text : hs_M := (⟨RX5, "text", "()I"⟩, prog_1_method_4_code, 3, (some .int), 9, 190)
def m_X5_fault : hs_M := (⟨RX5, "fault", "()I"⟩, prog_1_method_5_code, 1, (some .int), 0, 0)
def m_X5_rule : hs_M := (⟨RX5, "rule", "(I)I"⟩, prog_1_method_6_code, 2, (some .int), 5, 107)
def m_X5_ghost : hs_M := (⟨RX5, "ghost", "(II)I"⟩, prog_1_method_7_code, 3, (some .int), 5, 106)
def m_X5_clerk : hs_M := (⟨RX5, "clerk", "(II)I"⟩, prog_1_method_8_code, 3, (some .int), 2, 43)
def m_X5_alter : hs_M := (⟨RX5, "alter", "(III)I"⟩, prog_1_method_9_code, 5, (some .int), 3, 63)
def m_X5_post : hs_M := (⟨RX5, "post", "(III)I"⟩, prog_1_method_10_code, 5, (some .int), 2, 43)
def m_X5_leave : hs_M := (⟨RX5, "leave", "(IIII)I"⟩, prog_1_method_11_code, 5, (some .int), 2, 42)
def m_X5_nights : hs_M := (⟨RX5, "nights", "(I)I"⟩, prog_1_method_12_code, 3, (some .int), 6, 135)
def m_X5_runs : hs_M := (⟨RX5, "runs", "(II)I"⟩, prog_1_method_13_code, 3, (some .int), 4, 93)
def m_X5_ahead : hs_M := (⟨RX5, "ahead", "(III)I"⟩, prog_1_method_14_code, 4, (some .int), 5, 114)
def m_X5_rests : hs_M := (⟨RX5, "rests", "(I)I"⟩, prog_1_method_15_code, 2, (some .int), 4, 93)
def m_X5_meets : hs_M := (⟨RX5, "meets", "(II)I"⟩, prog_1_method_16_code, 4, (some .int), 4, 93)
def m_X5_harm : hs_M := (⟨RX5, "harm", "(II)I"⟩, prog_1_method_17_code, 3, (some .int), 5, 114)
def m_X5_best : hs_M := (⟨RX5, "best", "(II)I"⟩, prog_1_method_18_code, 8, (some .int), 5, 116)
def m_X5_learn : hs_M := (⟨RX5, "learn", "(II)I"⟩, prog_1_method_19_code, 6, (some .int), 6, 135)
def m_X5_quiet : hs_M := (⟨RX5, "quiet", "(II)I"⟩, prog_1_method_20_code, 5, (some .int), 5, 114)
def m_X5_better : hs_M := (⟨RX5, "better", "(III)I"⟩, prog_1_method_21_code, 8, (some .int), 5, 116)
def m_X5_from : hs_M := (⟨RX5, "from", "(II)I"⟩, prog_1_method_22_code, 7, (some .int), 4, 93)
def m_X5_luck : hs_M := (⟨RX5, "luck", "(IIII)J"⟩, prog_1_method_23_code, 8, (some .long), 5, 116)
def m_X5_mean : hs_M := (⟨RX5, "mean", "(III)J"⟩, prog_1_method_24_code, 7, (some .long), 5, 116)
def m_X5_see : hs_M := (⟨RX5, "see", "(III)I"⟩, prog_1_method_25_code, 4, (some .int), 2, 43)
def m_X5_forget : hs_M := (⟨RX5, "forget", "(I)I"⟩, prog_1_method_26_code, 3, (some .int), 1, 22)
def m_X5_kinds : hs_M := (⟨RX5, "kinds", "(I)I"⟩, prog_1_method_27_code, 4, (some .int), 5, 118)
def m_X5_second : hs_M := (⟨RX5, "second", "(II)I"⟩, prog_1_method_28_code, 7, (some .int), 5, 118)
def m_X5_look : hs_M := (⟨RX5, "look", "(II)I"⟩, prog_1_method_29_code, 7, (some .int), 6, 141)
def m_X5_drift : hs_M := (⟨RX5, "drift", "(III)I"⟩, prog_1_method_30_code, 7, (some .int), 4, 93)
def m_X5_keep : hs_M := (⟨RX5, "keep", "(I)I"⟩, prog_1_method_31_code, 3, (some .int), 2, 47)
def m_X5_back : hs_M := (⟨RX5, "back", "(I)I"⟩, prog_1_method_32_code, 2, (some .int), 2, 47)
def m_X5_sheet : hs_M := (⟨RX5, "sheet", "(III)I"⟩, prog_1_method_33_code, 4, (some .int), 2, 43)
def m_X5_lay : hs_M := (⟨RX5, "lay", "(III)I"⟩, prog_1_method_34_code, 5, (some .int), 2, 45)
def m_X5_read : hs_M := (⟨RX5, "read", "(IIII)I"⟩, prog_1_method_35_code, 11, (some .int), 6, 129)
def m_X5_torn : hs_M := (⟨RX5, "torn", "()I"⟩, prog_1_method_36_code, 1, (some .int), 0, 0)
def m_X5_count : hs_M := (⟨RX5, "count", "(I)I"⟩, prog_1_method_37_code, 2, (some .int), 1, 22)
def m_X5_within : hs_M := (⟨RX5, "within", "(III)Z"⟩, prog_1_method_38_code, 3, (some .boolean), 0, 0)
def m_X5_isRoom : hs_M := (⟨RX5, "isRoom", "(I)Z"⟩, prog_1_method_39_code, 1, (some .boolean), 1, 22)
def m_X5_mayBeTold : hs_M := (⟨RX5, "mayBeTold", "(II)Z"⟩, prog_1_method_40_code, 2, (some .boolean), 2, 42)
def m_X5_power : hs_M := (⟨RX5, "power", "(II)I"⟩, prog_1_method_41_code, 4, (some .int), 0, 0)
def m_X5_lowestTerm : hs_M := (⟨RX5, "lowestTerm", "(JJI)J"⟩, prog_1_method_42_code, 7, (some .long), 1, 30)
def m_X5_commonDivisor : hs_M := (⟨RX5, "commonDivisor", "(JJ)J"⟩, prog_1_method_43_code, 11, (some .long), 0, 0)
def m_X5_answerOf : hs_M := (⟨RX5, "answerOf", "(III)I"⟩, prog_1_method_44_code, 3, (some .int), 1, 21)
def m_X5_stepsOf : hs_M := (⟨RX5, "stepsOf", "(II)I"⟩, prog_1_method_45_code, 3, (some .int), 1, 23)
def m_X5_figuresOf : hs_M := (⟨RX5, "figuresOf", "(I)I"⟩, prog_1_method_46_code, 4, (some .int), 0, 0)
def m_X5_sevensOf : hs_M := (⟨RX5, "sevensOf", "(I)I"⟩, prog_1_method_47_code, 4, (some .int), 0, 0)
def m_X5_walkFromNow : hs_M := (⟨RX5, "walkFromNow", "(I)V"⟩, prog_1_method_48_code, 2, none, 4, 93)
def m_X5_harmOf : hs_M := (⟨RX5, "harmOf", "(I)I"⟩, prog_1_method_49_code, 2, (some .int), 5, 114)
def m_X5_harmWith : hs_M := (⟨RX5, "harmWith", "(III)I"⟩, prog_1_method_50_code, 4, (some .int), 4, 93)
def m_X5_harmByPlan : hs_M := (⟨RX5, "harmByPlan", "(II)I"⟩, prog_1_method_51_code, 4, (some .int), 4, 93)
def m_X5_deskByPlan : hs_M := (⟨RX5, "deskByPlan", "(II)I"⟩, prog_1_method_52_code, 5, (some .int), 0, 0)
def m_X5_goWithout : hs_M := (⟨RX5, "goWithout", "(II)V"⟩, prog_1_method_53_code, 4, none, 4, 93)
def m_X5_weight : hs_M := (⟨RX5, "weight", "(II)I"⟩, prog_1_method_54_code, 5, (some .int), 0, 0)
def m_X5_isAsSeen : hs_M := (⟨RX5, "isAsSeen", "(III)Z"⟩, prog_1_method_55_code, 6, (some .boolean), 4, 93)
def m_X5_tallyRooms : hs_M := (⟨RX5, "tallyRooms", "(I)I"⟩, prog_1_method_56_code, 4, (some .int), 5, 118)
def m_X5_tallyTrail : hs_M := (⟨RX5, "tallyTrail", "(II)V"⟩, prog_1_method_57_code, 4, none, 4, 93)
def m_X5_worstBehind : hs_M := (⟨RX5, "worstBehind", "(I)I"⟩, prog_1_method_58_code, 4, (some .int), 1, 21)
def m_X6_in : hs_M := (⟨RX6, "in", "(JJJ)Z"⟩, prog_8_method_3_code, 6, (some .boolean), 0, 0)
def m_X6_flag : hs_M := (⟨RX6, "flag", "(Z)I"⟩, prog_8_method_4_code, 1, (some .int), 0, 0)
def m_X6_lesser : hs_M := (⟨RX6, "lesser", "(II)I"⟩, prog_8_method_5_code, 2, (some .int), 0, 0)
def m_X6_firstDraft : hs_M := (⟨RX6, "firstDraft", "()V"⟩, prog_8_method_6_code, 2, none, 0, 0)
def m_X6_keepDraft : hs_M := (⟨RX6, "keepDraft", "()V"⟩, prog_8_method_7_code, 2, none, 0, 0)
def m_X6_feed : hs_M := (⟨RX6, "feed", "(I)I"⟩, prog_8_method_8_code, 2, (some .int), 1, 25)
def m_X6_end : hs_M := (⟨RX6, "end", "(I)I"⟩, prog_8_method_9_code, 3, (some .int), 1, 25)
def m_X6_needs : hs_M := (⟨RX6, "needs", "(ZI)V"⟩, prog_8_method_10_code, 3, none, 0, 0)
def m_X6_byteAt : hs_M := (⟨RX6, "byteAt", "(I)I"⟩, prog_8_method_11_code, 2, (some .int), 0, 0)
def m_X6_is : hs_M := (⟨RX6, "is", "(IIIIII)Z"⟩, prog_8_method_12_code, 8, (some .boolean), 1, 21)
def m_X6_lineNow : hs_M := (⟨RX6, "lineNow", "()I"⟩, prog_8_method_13_code, 1, (some .int), 2, 48)
def m_X6_takes : hs_M := (⟨RX6, "takes", "()V"⟩, prog_8_method_14_code, 2, none, 1, 25)
def m_X6_looked : hs_M := (⟨RX6, "looked", "(II)I"⟩, prog_8_method_15_code, 3, (some .int), 1, 25)
def m_X6_readNumber : hs_M := (⟨RX6, "readNumber", "(II)I"⟩, prog_8_method_16_code, 4, (some .int), 2, 47)
def m_X6_readDone : hs_M := (⟨RX6, "readDone", "()V"⟩, prog_8_method_17_code, 2, none, 3, 70)
def m_X6_readLineOf : hs_M := (⟨RX6, "readLineOf", "(I)V"⟩, prog_8_method_18_code, 2, none, 4, 91)
def m_X6_readLine : hs_M := (⟨RX6, "readLine", "()V"⟩, prog_8_method_19_code, 2, none, 5, 112)
def m_X6_text : hs_M := (⟨RX6, "text", "()I"⟩, prog_8_method_20_code, 2, (some .int), 6, 133)
def m_X6_fault : hs_M := (⟨RX6, "fault", "()I"⟩, prog_8_method_21_code, 1, (some .int), 0, 0)
def m_X6_isGhost : hs_M := (⟨RX6, "isGhost", "(I)Z"⟩, prog_8_method_22_code, 2, (some .boolean), 1, 25)
def m_X6_isClerk : hs_M := (⟨RX6, "isClerk", "(I)Z"⟩, prog_8_method_23_code, 2, (some .boolean), 1, 25)
def m_X6_isPart : hs_M := (⟨RX6, "isPart", "(I)Z"⟩, prog_8_method_24_code, 1, (some .boolean), 1, 25)
def m_X6_starts : hs_M := (⟨RX6, "starts", "()V"⟩, prog_8_method_25_code, 2, none, 0, 0)
def m_X6_settles : hs_M := (⟨RX6, "settles", "()V"⟩, prog_8_method_26_code, 2, none, 0, 0)
def m_X6_of : hs_M := (⟨RX6, "of", "(II)I"⟩, prog_8_method_27_code, 3, (some .int), 0, 0)
def m_X6_becomesOf : hs_M := (⟨RX6, "becomesOf", "(III)V"⟩, prog_8_method_28_code, 4, none, 0, 0)
def m_X6_answer : hs_M := (⟨RX6, "answer", "(I)I"⟩, prog_8_method_29_code, 4, (some .int), 1, 22)
def m_X6_steps : hs_M := (⟨RX6, "steps", "(I)I"⟩, prog_8_method_30_code, 4, (some .int), 2, 45)
def m_X6_left : hs_M := (⟨RX6, "left", "(I)I"⟩, prog_8_method_31_code, 3, (some .int), 3, 68)
def m_X6_sevens : hs_M := (⟨RX6, "sevens", "(I)I"⟩, prog_8_method_32_code, 3, (some .int), 1, 20)
def m_X6_creaks : hs_M := (⟨RX6, "creaks", "(I)I"⟩, prog_8_method_33_code, 2, (some .int), 2, 45)
def m_X6_firstIn : hs_M := (⟨RX6, "firstIn", "(I)I"⟩, prog_8_method_34_code, 3, (some .int), 4, 90)
def m_X6_nightGoes : hs_M := (⟨RX6, "nightGoes", "()V"⟩, prog_8_method_35_code, 3, none, 5, 112)
def m_X6_allHarm : hs_M := (⟨RX6, "allHarm", "()I"⟩, prog_8_method_36_code, 3, (some .int), 0, 0)
def m_X6_harmOf : hs_M := (⟨RX6, "harmOf", "(I)I"⟩, prog_8_method_37_code, 3, (some .int), 6, 134)
def m_X6_resting : hs_M := (⟨RX6, "resting", "()I"⟩, prog_8_method_38_code, 3, (some .int), 4, 90)
def m_X6_allLeft : hs_M := (⟨RX6, "allLeft", "()I"⟩, prog_8_method_39_code, 3, (some .int), 4, 90)
def m_X6_rule : hs_M := (⟨RX6, "rule", "(I)I"⟩, prog_8_method_40_code, 4, (some .int), 5, 112)
def m_X6_ghost : hs_M := (⟨RX6, "ghost", "(II)I"⟩, prog_8_method_41_code, 3, (some .int), 4, 90)
def m_X6_clerk : hs_M := (⟨RX6, "clerk", "(II)I"⟩, prog_8_method_42_code, 3, (some .int), 2, 46)
def m_X6_becomes : hs_M := (⟨RX6, "becomes", "(II)I"⟩, prog_8_method_43_code, 4, (some .int), 0, 0)
def m_X6_canBe : hs_M := (⟨RX6, "canBe", "(II)Z"⟩, prog_8_method_44_code, 2, (some .boolean), 1, 25)
def m_X6_alter : hs_M := (⟨RX6, "alter", "(III)I"⟩, prog_8_method_45_code, 4, (some .int), 2, 46)
def m_X6_post : hs_M := (⟨RX6, "post", "(III)I"⟩, prog_8_method_46_code, 5, (some .int), 2, 46)
def m_X6_leave : hs_M := (⟨RX6, "leave", "(IIII)I"⟩, prog_8_method_47_code, 6, (some .int), 2, 46)
def m_X6_nights : hs_M := (⟨RX6, "nights", "(I)I"⟩, prog_8_method_48_code, 3, (some .int), 7, 156)
def m_X6_isFar : hs_M := (⟨RX6, "isFar", "(I)Z"⟩, prog_8_method_49_code, 1, (some .boolean), 1, 25)
def m_X6_runs : hs_M := (⟨RX6, "runs", "(II)I"⟩, prog_8_method_50_code, 5, (some .int), 6, 134)
def m_X6_ahead : hs_M := (⟨RX6, "ahead", "(III)I"⟩, prog_8_method_51_code, 4, (some .int), 7, 156)
def m_X6_nightsTo : hs_M := (⟨RX6, "nightsTo", "(I)I"⟩, prog_8_method_52_code, 3, (some .int), 6, 134)
def m_X6_rests : hs_M := (⟨RX6, "rests", "(I)I"⟩, prog_8_method_53_code, 2, (some .int), 7, 156)
def m_X6_meets : hs_M := (⟨RX6, "meets", "(II)I"⟩, prog_8_method_54_code, 4, (some .int), 6, 134)
def m_X6_harm : hs_M := (⟨RX6, "harm", "(II)I"⟩, prog_8_method_55_code, 3, (some .int), 7, 156)
def m_X6_isJudged : hs_M := (⟨RX6, "isJudged", "(I)Z"⟩, prog_8_method_56_code, 1, (some .boolean), 1, 25)
def m_X6_postsBy : hs_M := (⟨RX6, "postsBy", "(I)V"⟩, prog_8_method_57_code, 4, none, 0, 0)
def m_X6_best : hs_M := (⟨RX6, "best", "(II)I"⟩, prog_8_method_58_code, 8, (some .int), 7, 156)
def m_X6_learn : hs_M := (⟨RX6, "learn", "(II)I"⟩, prog_8_method_59_code, 7, (some .int), 7, 156)
def m_X6_quiet : hs_M := (⟨RX6, "quiet", "(II)I"⟩, prog_8_method_60_code, 5, (some .int), 7, 156)
def m_X6_better : hs_M := (⟨RX6, "better", "(III)I"⟩, prog_8_method_61_code, 8, (some .int), 7, 156)
def m_X6_from : hs_M := (⟨RX6, "from", "(II)I"⟩, prog_8_method_62_code, 8, (some .int), 7, 156)
def m_X6_common : hs_M := (⟨RX6, "common", "(JJ)J"⟩, prog_8_method_63_code, 10, (some .long), 0, 0)
def m_X6_told : hs_M := (⟨RX6, "told", "(JJI)J"⟩, prog_8_method_64_code, 7, (some .long), 1, 29)
def m_X6_findOdds : hs_M := (⟨RX6, "findOdds", "(III)V"⟩, prog_8_method_65_code, 8, none, 7, 156)
def m_X6_luck : hs_M := (⟨RX6, "luck", "(IIII)J"⟩, prog_8_method_66_code, 5, (some .long), 8, 183)
def m_X6_mean : hs_M := (⟨RX6, "mean", "(III)J"⟩, prog_8_method_67_code, 4, (some .long), 8, 183)
def m_X6_see : hs_M := (⟨RX6, "see", "(III)I"⟩, prog_8_method_68_code, 5, (some .int), 2, 46)
def m_X6_forget : hs_M := (⟨RX6, "forget", "(I)I"⟩, prog_8_method_69_code, 2, (some .int), 1, 25)
def m_X6_isSoWith : hs_M := (⟨RX6, "isSoWith", "(III)Z"⟩, prog_8_method_70_code, 7, (some .boolean), 6, 134)
def m_X6_kinds : hs_M := (⟨RX6, "kinds", "(I)I"⟩, prog_8_method_71_code, 4, (some .int), 7, 160)
def m_X6_second : hs_M := (⟨RX6, "second", "(II)I"⟩, prog_8_method_72_code, 7, (some .int), 7, 160)
def m_X6_look : hs_M := (⟨RX6, "look", "(II)I"⟩, prog_8_method_73_code, 8, (some .int), 7, 160)
def m_X6_drift : hs_M := (⟨RX6, "drift", "(III)I"⟩, prog_8_method_74_code, 7, (some .int), 6, 134)
def m_X6_copies : hs_M := (⟨RX6, "copies", "(II)V"⟩, prog_8_method_75_code, 4, none, 0, 0)
def m_X6_keep : hs_M := (⟨RX6, "keep", "(I)I"⟩, prog_8_method_76_code, 3, (some .int), 1, 25)
def m_X6_back : hs_M := (⟨RX6, "back", "(I)I"⟩, prog_8_method_77_code, 2, (some .int), 1, 25)
def m_X6_isSheet : hs_M := (⟨RX6, "isSheet", "(II)Z"⟩, prog_8_method_78_code, 2, (some .boolean), 1, 25)
def m_X6_sheet : hs_M := (⟨RX6, "sheet", "(III)I"⟩, prog_8_method_79_code, 5, (some .int), 2, 46)
def m_X6_lay : hs_M := (⟨RX6, "lay", "(III)I"⟩, prog_8_method_80_code, 4, (some .int), 2, 46)
def m_X6_read : hs_M := (⟨RX6, "read", "(IIII)I"⟩, prog_8_method_81_code, 11, (some .int), 8, 178)
def m_X6_torn : hs_M := (⟨RX6, "torn", "()I"⟩, prog_8_method_82_code, 1, (some .int), 0, 0)
def m_X6_count : hs_M := (⟨RX6, "count", "(I)I"⟩, prog_8_method_83_code, 4, (some .int), 1, 20)
theorem wf_X4_36 : Cond.fieldLink RX4 36 RX4 (TX4 0).2.1 (TX4 0).2.2.1 ∈ hs_U := hs_t1 28 (by decide +kernel) rfl
theorem fl_X4_36 : hs_FL RX4 36 4 0 := ⟨RX4, TX4, 9, tyX4, rfl, inX4, by decide, wf_X4_36, rfl, tyX4_ok, nmX4⟩
theorem wf_X4_9 : Cond.fieldLink RX4 9 RX4 (TX4 1).2.1 (TX4 1).2.2.1 ∈ hs_U := hs_t1 29 (by decide +kernel) rfl
theorem fl_X4_9 : hs_FL RX4 9 4 1 := ⟨RX4, TX4, 9, tyX4, rfl, inX4, by decide, wf_X4_9, rfl, tyX4_ok, nmX4⟩
theorem wf_X5_175 : Cond.fieldLink RX5 175 RX4 (TX4 1).2.1 (TX4 1).2.2.1 ∈ hs_U := hs_t1 30 (by decide +kernel) rfl
theorem fl_X5_175 : hs_FL RX5 175 4 1 := ⟨RX4, TX4, 9, tyX4, rfl, inX4, by decide, wf_X5_175, rfl, tyX4_ok, nmX4⟩
theorem wf_X3_91 : Cond.fieldLink RX3 91 RX4 (TX4 1).2.1 (TX4 1).2.2.1 ∈ hs_U := hs_t1 31 (by decide +kernel) rfl
theorem fl_X3_91 : hs_FL RX3 91 4 1 := ⟨RX4, TX4, 9, tyX4, rfl, inX4, by decide, wf_X3_91, rfl, tyX4_ok, nmX4⟩
theorem wf_X4_15 : Cond.fieldLink RX4 15 RX4 (TX4 2).2.1 (TX4 2).2.2.1 ∈ hs_U := hs_t1 32 (by decide +kernel) rfl
theorem fl_X4_15 : hs_FL RX4 15 4 2 := ⟨RX4, TX4, 9, tyX4, rfl, inX4, by decide, wf_X4_15, rfl, tyX4_ok, nmX4⟩
theorem wf_X5_178 : Cond.fieldLink RX5 178 RX4 (TX4 2).2.1 (TX4 2).2.2.1 ∈ hs_U := hs_t1 33 (by decide +kernel) rfl
theorem fl_X5_178 : hs_FL RX5 178 4 2 := ⟨RX4, TX4, 9, tyX4, rfl, inX4, by decide, wf_X5_178, rfl, tyX4_ok, nmX4⟩
theorem wf_X3_94 : Cond.fieldLink RX3 94 RX4 (TX4 2).2.1 (TX4 2).2.2.1 ∈ hs_U := hs_t1 34 (by decide +kernel) rfl
theorem fl_X3_94 : hs_FL RX3 94 4 2 := ⟨RX4, TX4, 9, tyX4, rfl, inX4, by decide, wf_X3_94, rfl, tyX4_ok, nmX4⟩
theorem wf_X4_18 : Cond.fieldLink RX4 18 RX4 (TX4 3).2.1 (TX4 3).2.2.1 ∈ hs_U := hs_t1 35 (by decide +kernel) rfl
theorem fl_X4_18 : hs_FL RX4 18 4 3 := ⟨RX4, TX4, 9, tyX4, rfl, inX4, by decide, wf_X4_18, rfl, tyX4_ok, nmX4⟩
theorem wf_X4_57 : Cond.fieldLink RX4 57 RX4 (TX4 4).2.1 (TX4 4).2.2.1 ∈ hs_U := hs_t1 36 (by decide +kernel) rfl
theorem fl_X4_57 : hs_FL RX4 57 4 4 := ⟨RX4, TX4, 9, tyX4, rfl, inX4, by decide, wf_X4_57, rfl, tyX4_ok, nmX4⟩
theorem wf_X4_21 : Cond.fieldLink RX4 21 RX4 (TX4 5).2.1 (TX4 5).2.2.1 ∈ hs_U := hs_t1 37 (by decide +kernel) rfl
theorem fl_X4_21 : hs_FL RX4 21 4 5 := ⟨RX4, TX4, 9, tyX4, rfl, inX4, by decide, wf_X4_21, rfl, tyX4_ok, nmX4⟩
theorem wf_X5_180 : Cond.fieldLink RX5 180 RX4 (TX4 5).2.1 (TX4 5).2.2.1 ∈ hs_U := hs_t1 38 (by decide +kernel) rfl
theorem fl_X5_180 : hs_FL RX5 180 4 5 := ⟨RX4, TX4, 9, tyX4, rfl, inX4, by decide, wf_X5_180, rfl, tyX4_ok, nmX4⟩
theorem wf_X3_99 : Cond.fieldLink RX3 99 RX4 (TX4 5).2.1 (TX4 5).2.2.1 ∈ hs_U := hs_t1 39 (by decide +kernel) rfl
theorem fl_X3_99 : hs_FL RX3 99 4 5 := ⟨RX4, TX4, 9, tyX4, rfl, inX4, by decide, wf_X3_99, rfl, tyX4_ok, nmX4⟩
theorem wf_X4_24 : Cond.fieldLink RX4 24 RX4 (TX4 6).2.1 (TX4 6).2.2.1 ∈ hs_U := hs_t1 40 (by decide +kernel) rfl
theorem fl_X4_24 : hs_FL RX4 24 4 6 := ⟨RX4, TX4, 9, tyX4, rfl, inX4, by decide, wf_X4_24, rfl, tyX4_ok, nmX4⟩
theorem wf_X5_196 : Cond.fieldLink RX5 196 RX4 (TX4 6).2.1 (TX4 6).2.2.1 ∈ hs_U := hs_t1 41 (by decide +kernel) rfl
theorem fl_X5_196 : hs_FL RX5 196 4 6 := ⟨RX4, TX4, 9, tyX4, rfl, inX4, by decide, wf_X5_196, rfl, tyX4_ok, nmX4⟩
theorem wf_X4_60 : Cond.fieldLink RX4 60 RX4 (TX4 7).2.1 (TX4 7).2.2.1 ∈ hs_U := hs_t1 42 (by decide +kernel) rfl
theorem fl_X4_60 : hs_FL RX4 60 4 7 := ⟨RX4, TX4, 9, tyX4, rfl, inX4, by decide, wf_X4_60, rfl, tyX4_ok, nmX4⟩
theorem wf_X5_169 : Cond.fieldLink RX5 169 RX4 (TX4 7).2.1 (TX4 7).2.2.1 ∈ hs_U := hs_t1 43 (by decide +kernel) rfl
theorem fl_X5_169 : hs_FL RX5 169 4 7 := ⟨RX4, TX4, 9, tyX4, rfl, inX4, by decide, wf_X5_169, rfl, tyX4_ok, nmX4⟩
theorem wf_X4_27 : Cond.fieldLink RX4 27 RX4 (TX4 8).2.1 (TX4 8).2.2.1 ∈ hs_U := hs_t1 44 (by decide +kernel) rfl
theorem fl_X4_27 : hs_FL RX4 27 4 8 := ⟨RX4, TX4, 9, tyX4, rfl, inX4, by decide, wf_X4_27, rfl, tyX4_ok, nmX4⟩
theorem wf_X5_184 : Cond.fieldLink RX5 184 RX4 (TX4 8).2.1 (TX4 8).2.2.1 ∈ hs_U := hs_t1 45 (by decide +kernel) rfl
theorem fl_X5_184 : hs_FL RX5 184 4 8 := ⟨RX4, TX4, 9, tyX4, rfl, inX4, by decide, wf_X5_184, rfl, tyX4_ok, nmX4⟩
theorem wf_X3_42 : Cond.fieldLink RX3 42 RX3 (TX3 0).2.1 (TX3 0).2.2.1 ∈ hs_U := hs_t1 72 (by decide +kernel) rfl
theorem fl_X3_42 : hs_FL RX3 42 3 0 := ⟨RX3, TX3, 14, tyX3, rfl, inX3, by decide, wf_X3_42, rfl, tyX3_ok, nmX3⟩
theorem wf_X4_30 : Cond.fieldLink RX4 30 RX3 (TX3 0).2.1 (TX3 0).2.2.1 ∈ hs_U := hs_t1 73 (by decide +kernel) rfl
theorem fl_X4_30 : hs_FL RX4 30 3 0 := ⟨RX3, TX3, 14, tyX3, rfl, inX3, by decide, wf_X4_30, rfl, tyX3_ok, nmX3⟩
theorem wf_X0_84 : Cond.fieldLink RX0 84 RX3 (TX3 0).2.1 (TX3 0).2.2.1 ∈ hs_U := hs_t1 74 (by decide +kernel) rfl
theorem fl_X0_84 : hs_FL RX0 84 3 0 := ⟨RX3, TX3, 14, tyX3, rfl, inX3, by decide, wf_X0_84, rfl, tyX3_ok, nmX3⟩
theorem wf_X5_89 : Cond.fieldLink RX5 89 RX3 (TX3 0).2.1 (TX3 0).2.2.1 ∈ hs_U := hs_t1 75 (by decide +kernel) rfl
theorem fl_X5_89 : hs_FL RX5 89 3 0 := ⟨RX3, TX3, 14, tyX3, rfl, inX3, by decide, wf_X5_89, rfl, tyX3_ok, nmX3⟩
theorem wf_X3_9 : Cond.fieldLink RX3 9 RX3 (TX3 1).2.1 (TX3 1).2.2.1 ∈ hs_U := hs_t1 76 (by decide +kernel) rfl
theorem fl_X3_9 : hs_FL RX3 9 3 1 := ⟨RX3, TX3, 14, tyX3, rfl, inX3, by decide, wf_X3_9, rfl, tyX3_ok, nmX3⟩
theorem wf_X4_38 : Cond.fieldLink RX4 38 RX3 (TX3 1).2.1 (TX3 1).2.2.1 ∈ hs_U := hs_t1 77 (by decide +kernel) rfl
theorem fl_X4_38 : hs_FL RX4 38 3 1 := ⟨RX3, TX3, 14, tyX3, rfl, inX3, by decide, wf_X4_38, rfl, tyX3_ok, nmX3⟩
theorem wf_X5_232 : Cond.fieldLink RX5 232 RX3 (TX3 1).2.1 (TX3 1).2.2.1 ∈ hs_U := hs_t1 78 (by decide +kernel) rfl
theorem fl_X5_232 : hs_FL RX5 232 3 1 := ⟨RX3, TX3, 14, tyX3, rfl, inX3, by decide, wf_X5_232, rfl, tyX3_ok, nmX3⟩
theorem wf_X3_15 : Cond.fieldLink RX3 15 RX3 (TX3 2).2.1 (TX3 2).2.2.1 ∈ hs_U := hs_t1 79 (by decide +kernel) rfl
theorem fl_X3_15 : hs_FL RX3 15 3 2 := ⟨RX3, TX3, 14, tyX3, rfl, inX3, by decide, wf_X3_15, rfl, tyX3_ok, nmX3⟩
theorem wf_X4_41 : Cond.fieldLink RX4 41 RX3 (TX3 2).2.1 (TX3 2).2.2.1 ∈ hs_U := hs_t1 80 (by decide +kernel) rfl
theorem fl_X4_41 : hs_FL RX4 41 3 2 := ⟨RX3, TX3, 14, tyX3, rfl, inX3, by decide, wf_X4_41, rfl, tyX3_ok, nmX3⟩
theorem wf_X5_289 : Cond.fieldLink RX5 289 RX3 (TX3 2).2.1 (TX3 2).2.2.1 ∈ hs_U := hs_t1 81 (by decide +kernel) rfl
theorem fl_X5_289 : hs_FL RX5 289 3 2 := ⟨RX3, TX3, 14, tyX3, rfl, inX3, by decide, wf_X5_289, rfl, tyX3_ok, nmX3⟩
theorem wf_X3_18 : Cond.fieldLink RX3 18 RX3 (TX3 3).2.1 (TX3 3).2.2.1 ∈ hs_U := hs_t1 82 (by decide +kernel) rfl
theorem fl_X3_18 : hs_FL RX3 18 3 3 := ⟨RX3, TX3, 14, tyX3, rfl, inX3, by decide, wf_X3_18, rfl, tyX3_ok, nmX3⟩
theorem wf_X4_44 : Cond.fieldLink RX4 44 RX3 (TX3 3).2.1 (TX3 3).2.2.1 ∈ hs_U := hs_t1 83 (by decide +kernel) rfl
theorem fl_X4_44 : hs_FL RX4 44 3 3 := ⟨RX3, TX3, 14, tyX3, rfl, inX3, by decide, wf_X4_44, rfl, tyX3_ok, nmX3⟩
theorem wf_X5_226 : Cond.fieldLink RX5 226 RX3 (TX3 3).2.1 (TX3 3).2.2.1 ∈ hs_U := hs_t1 84 (by decide +kernel) rfl
theorem fl_X5_226 : hs_FL RX5 226 3 3 := ⟨RX3, TX3, 14, tyX3, rfl, inX3, by decide, wf_X5_226, rfl, tyX3_ok, nmX3⟩
theorem wf_X3_21 : Cond.fieldLink RX3 21 RX3 (TX3 4).2.1 (TX3 4).2.2.1 ∈ hs_U := hs_t1 85 (by decide +kernel) rfl
theorem fl_X3_21 : hs_FL RX3 21 3 4 := ⟨RX3, TX3, 14, tyX3, rfl, inX3, by decide, wf_X3_21, rfl, tyX3_ok, nmX3⟩
theorem wf_X4_37 : Cond.fieldLink RX4 37 RX3 (TX3 4).2.1 (TX3 4).2.2.1 ∈ hs_U := hs_t1 86 (by decide +kernel) rfl
theorem fl_X4_37 : hs_FL RX4 37 3 4 := ⟨RX3, TX3, 14, tyX3, rfl, inX3, by decide, wf_X4_37, rfl, tyX3_ok, nmX3⟩
theorem wf_X3_24 : Cond.fieldLink RX3 24 RX3 (TX3 5).2.1 (TX3 5).2.2.1 ∈ hs_U := hs_t1 87 (by decide +kernel) rfl
theorem fl_X3_24 : hs_FL RX3 24 3 5 := ⟨RX3, TX3, 14, tyX3, rfl, inX3, by decide, wf_X3_24, rfl, tyX3_ok, nmX3⟩
theorem wf_X4_47 : Cond.fieldLink RX4 47 RX3 (TX3 5).2.1 (TX3 5).2.2.1 ∈ hs_U := hs_t1 88 (by decide +kernel) rfl
theorem fl_X4_47 : hs_FL RX4 47 3 5 := ⟨RX3, TX3, 14, tyX3, rfl, inX3, by decide, wf_X4_47, rfl, tyX3_ok, nmX3⟩
theorem wf_X0_56 : Cond.fieldLink RX0 56 RX3 (TX3 5).2.1 (TX3 5).2.2.1 ∈ hs_U := hs_t1 89 (by decide +kernel) rfl
theorem fl_X0_56 : hs_FL RX0 56 3 5 := ⟨RX3, TX3, 14, tyX3, rfl, inX3, by decide, wf_X0_56, rfl, tyX3_ok, nmX3⟩
theorem wf_X5_292 : Cond.fieldLink RX5 292 RX3 (TX3 5).2.1 (TX3 5).2.2.1 ∈ hs_U := hs_t1 90 (by decide +kernel) rfl
theorem fl_X5_292 : hs_FL RX5 292 3 5 := ⟨RX3, TX3, 14, tyX3, rfl, inX3, by decide, wf_X5_292, rfl, tyX3_ok, nmX3⟩
theorem wf_X3_46 : Cond.fieldLink RX3 46 RX3 (TX3 6).2.1 (TX3 6).2.2.1 ∈ hs_U := hs_t1 91 (by decide +kernel) rfl
theorem fl_X3_46 : hs_FL RX3 46 3 6 := ⟨RX3, TX3, 14, tyX3, rfl, inX3, by decide, wf_X3_46, rfl, tyX3_ok, nmX3⟩
theorem wf_X4_54 : Cond.fieldLink RX4 54 RX3 (TX3 6).2.1 (TX3 6).2.2.1 ∈ hs_U := hs_t1 92 (by decide +kernel) rfl
theorem fl_X4_54 : hs_FL RX4 54 3 6 := ⟨RX3, TX3, 14, tyX3, rfl, inX3, by decide, wf_X4_54, rfl, tyX3_ok, nmX3⟩
theorem wf_X0_78 : Cond.fieldLink RX0 78 RX3 (TX3 6).2.1 (TX3 6).2.2.1 ∈ hs_U := hs_t1 93 (by decide +kernel) rfl
theorem fl_X0_78 : hs_FL RX0 78 3 6 := ⟨RX3, TX3, 14, tyX3, rfl, inX3, by decide, wf_X0_78, rfl, tyX3_ok, nmX3⟩
theorem wf_X5_92 : Cond.fieldLink RX5 92 RX3 (TX3 6).2.1 (TX3 6).2.2.1 ∈ hs_U := hs_t1 94 (by decide +kernel) rfl
theorem fl_X5_92 : hs_FL RX5 92 3 6 := ⟨RX3, TX3, 14, tyX3, rfl, inX3, by decide, wf_X5_92, rfl, tyX3_ok, nmX3⟩
theorem wf_X3_27 : Cond.fieldLink RX3 27 RX3 (TX3 7).2.1 (TX3 7).2.2.1 ∈ hs_U := hs_t1 95 (by decide +kernel) rfl
theorem fl_X3_27 : hs_FL RX3 27 3 7 := ⟨RX3, TX3, 14, tyX3, rfl, inX3, by decide, wf_X3_27, rfl, tyX3_ok, nmX3⟩
theorem wf_X4_58 : Cond.fieldLink RX4 58 RX3 (TX3 7).2.1 (TX3 7).2.2.1 ∈ hs_U := hs_t1 96 (by decide +kernel) rfl
theorem fl_X4_58 : hs_FL RX4 58 3 7 := ⟨RX3, TX3, 14, tyX3, rfl, inX3, by decide, wf_X4_58, rfl, tyX3_ok, nmX3⟩
theorem wf_X5_134 : Cond.fieldLink RX5 134 RX3 (TX3 7).2.1 (TX3 7).2.2.1 ∈ hs_U := hs_t1 97 (by decide +kernel) rfl
theorem fl_X5_134 : hs_FL RX5 134 3 7 := ⟨RX3, TX3, 14, tyX3, rfl, inX3, by decide, wf_X5_134, rfl, tyX3_ok, nmX3⟩
theorem wf_X3_30 : Cond.fieldLink RX3 30 RX3 (TX3 8).2.1 (TX3 8).2.2.1 ∈ hs_U := hs_t1 98 (by decide +kernel) rfl
theorem fl_X3_30 : hs_FL RX3 30 3 8 := ⟨RX3, TX3, 14, tyX3, rfl, inX3, by decide, wf_X3_30, rfl, tyX3_ok, nmX3⟩
theorem wf_X4_59 : Cond.fieldLink RX4 59 RX3 (TX3 8).2.1 (TX3 8).2.2.1 ∈ hs_U := hs_t1 99 (by decide +kernel) rfl
theorem fl_X4_59 : hs_FL RX4 59 3 8 := ⟨RX3, TX3, 14, tyX3, rfl, inX3, by decide, wf_X4_59, rfl, tyX3_ok, nmX3⟩
theorem wf_X5_137 : Cond.fieldLink RX5 137 RX3 (TX3 8).2.1 (TX3 8).2.2.1 ∈ hs_U := hs_t1 100 (by decide +kernel) rfl
theorem fl_X5_137 : hs_FL RX5 137 3 8 := ⟨RX3, TX3, 14, tyX3, rfl, inX3, by decide, wf_X5_137, rfl, tyX3_ok, nmX3⟩
theorem wf_X3_49 : Cond.fieldLink RX3 49 RX3 (TX3 9).2.1 (TX3 9).2.2.1 ∈ hs_U := hs_t1 101 (by decide +kernel) rfl
theorem fl_X3_49 : hs_FL RX3 49 3 9 := ⟨RX3, TX3, 14, tyX3, rfl, inX3, by decide, wf_X3_49, rfl, tyX3_ok, nmX3⟩
theorem wf_X5_95 : Cond.fieldLink RX5 95 RX3 (TX3 9).2.1 (TX3 9).2.2.1 ∈ hs_U := hs_t1 102 (by decide +kernel) rfl
theorem fl_X5_95 : hs_FL RX5 95 3 9 := ⟨RX3, TX3, 14, tyX3, rfl, inX3, by decide, wf_X5_95, rfl, tyX3_ok, nmX3⟩
theorem wf_X3_52 : Cond.fieldLink RX3 52 RX3 (TX3 10).2.1 (TX3 10).2.2.1 ∈ hs_U := hs_t1 103 (by decide +kernel) rfl
theorem fl_X3_52 : hs_FL RX3 52 3 10 := ⟨RX3, TX3, 14, tyX3, rfl, inX3, by decide, wf_X3_52, rfl, tyX3_ok, nmX3⟩
theorem wf_X5_214 : Cond.fieldLink RX5 214 RX3 (TX3 10).2.1 (TX3 10).2.2.1 ∈ hs_U := hs_t1 104 (by decide +kernel) rfl
theorem fl_X5_214 : hs_FL RX5 214 3 10 := ⟨RX3, TX3, 14, tyX3, rfl, inX3, by decide, wf_X5_214, rfl, tyX3_ok, nmX3⟩
theorem wf_X3_33 : Cond.fieldLink RX3 33 RX3 (TX3 11).2.1 (TX3 11).2.2.1 ∈ hs_U := hs_t1 105 (by decide +kernel) rfl
theorem fl_X3_33 : hs_FL RX3 33 3 11 := ⟨RX3, TX3, 14, tyX3, rfl, inX3, by decide, wf_X3_33, rfl, tyX3_ok, nmX3⟩
theorem wf_X5_217 : Cond.fieldLink RX5 217 RX3 (TX3 11).2.1 (TX3 11).2.2.1 ∈ hs_U := hs_t1 106 (by decide +kernel) rfl
theorem fl_X5_217 : hs_FL RX5 217 3 11 := ⟨RX3, TX3, 14, tyX3, rfl, inX3, by decide, wf_X5_217, rfl, tyX3_ok, nmX3⟩
theorem wf_X3_36 : Cond.fieldLink RX3 36 RX3 (TX3 12).2.1 (TX3 12).2.2.1 ∈ hs_U := hs_t1 107 (by decide +kernel) rfl
theorem fl_X3_36 : hs_FL RX3 36 3 12 := ⟨RX3, TX3, 14, tyX3, rfl, inX3, by decide, wf_X3_36, rfl, tyX3_ok, nmX3⟩
theorem wf_X5_220 : Cond.fieldLink RX5 220 RX3 (TX3 12).2.1 (TX3 12).2.2.1 ∈ hs_U := hs_t1 108 (by decide +kernel) rfl
theorem fl_X5_220 : hs_FL RX5 220 3 12 := ⟨RX3, TX3, 14, tyX3, rfl, inX3, by decide, wf_X5_220, rfl, tyX3_ok, nmX3⟩
theorem wf_X3_39 : Cond.fieldLink RX3 39 RX3 (TX3 13).2.1 (TX3 13).2.2.1 ∈ hs_U := hs_t1 109 (by decide +kernel) rfl
theorem fl_X3_39 : hs_FL RX3 39 3 13 := ⟨RX3, TX3, 14, tyX3, rfl, inX3, by decide, wf_X3_39, rfl, tyX3_ok, nmX3⟩
theorem wf_X5_223 : Cond.fieldLink RX5 223 RX3 (TX3 13).2.1 (TX3 13).2.2.1 ∈ hs_U := hs_t1 110 (by decide +kernel) rfl
theorem fl_X5_223 : hs_FL RX5 223 3 13 := ⟨RX3, TX3, 14, tyX3, rfl, inX3, by decide, wf_X5_223, rfl, tyX3_ok, nmX3⟩
theorem wf_X2_9 : Cond.fieldLink RX2 9 RX2 (TX2 0).2.1 (TX2 0).2.2.1 ∈ hs_U := hs_t1 146 (by decide +kernel) rfl
theorem fl_X2_9 : hs_FL RX2 9 2 0 := ⟨RX2, TX2, 2, tyX2, rfl, inX2, by decide, wf_X2_9, rfl, tyX2_ok, nmX2⟩
theorem wf_X5_66 : Cond.fieldLink RX5 66 RX2 (TX2 0).2.1 (TX2 0).2.2.1 ∈ hs_U := hs_t1 147 (by decide +kernel) rfl
theorem fl_X5_66 : hs_FL RX5 66 2 0 := ⟨RX2, TX2, 2, tyX2, rfl, inX2, by decide, wf_X5_66, rfl, tyX2_ok, nmX2⟩
theorem wf_X0_109 : Cond.fieldLink RX0 109 RX2 (TX2 0).2.1 (TX2 0).2.2.1 ∈ hs_U := hs_t1 148 (by decide +kernel) rfl
theorem fl_X0_109 : hs_FL RX0 109 2 0 := ⟨RX2, TX2, 2, tyX2, rfl, inX2, by decide, wf_X0_109, rfl, tyX2_ok, nmX2⟩
theorem wf_X5_62 : Cond.fieldLink RX5 62 RX2 (TX2 1).2.1 (TX2 1).2.2.1 ∈ hs_U := hs_t1 149 (by decide +kernel) rfl
theorem fl_X5_62 : hs_FL RX5 62 2 1 := ⟨RX2, TX2, 2, tyX2, rfl, inX2, by decide, wf_X5_62, rfl, tyX2_ok, nmX2⟩
theorem wf_X0_59 : Cond.fieldLink RX0 59 RX2 (TX2 1).2.1 (TX2 1).2.2.1 ∈ hs_U := hs_t1 150 (by decide +kernel) rfl
theorem fl_X0_59 : hs_FL RX0 59 2 1 := ⟨RX2, TX2, 2, tyX2, rfl, inX2, by decide, wf_X0_59, rfl, tyX2_ok, nmX2⟩
theorem wf_X0_22 : Cond.fieldLink RX0 22 RX0 (TX0 0).2.1 (TX0 0).2.2.1 ∈ hs_U := hs_t1 164 (by decide +kernel) rfl
theorem fl_X0_22 : hs_FL RX0 22 0 0 := ⟨RX0, TX0, 9, tyX0, rfl, inX0, by decide, wf_X0_22, rfl, tyX0_ok, nmX0⟩
theorem wf_X0_12 : Cond.fieldLink RX0 12 RX0 (TX0 1).2.1 (TX0 1).2.2.1 ∈ hs_U := hs_t1 165 (by decide +kernel) rfl
theorem fl_X0_12 : hs_FL RX0 12 0 1 := ⟨RX0, TX0, 9, tyX0, rfl, inX0, by decide, wf_X0_12, rfl, tyX0_ok, nmX0⟩
theorem wf_X5_82 : Cond.fieldLink RX5 82 RX0 (TX0 1).2.1 (TX0 1).2.2.1 ∈ hs_U := hs_t1 166 (by decide +kernel) rfl
theorem fl_X5_82 : hs_FL RX5 82 0 1 := ⟨RX0, TX0, 9, tyX0, rfl, inX0, by decide, wf_X5_82, rfl, tyX0_ok, nmX0⟩
theorem wf_X0_18 : Cond.fieldLink RX0 18 RX0 (TX0 2).2.1 (TX0 2).2.2.1 ∈ hs_U := hs_t1 167 (by decide +kernel) rfl
theorem fl_X0_18 : hs_FL RX0 18 0 2 := ⟨RX0, TX0, 9, tyX0, rfl, inX0, by decide, wf_X0_18, rfl, tyX0_ok, nmX0⟩
theorem wf_X0_29 : Cond.fieldLink RX0 29 RX0 (TX0 3).2.1 (TX0 3).2.2.1 ∈ hs_U := hs_t1 168 (by decide +kernel) rfl
theorem fl_X0_29 : hs_FL RX0 29 0 3 := ⟨RX0, TX0, 9, tyX0, rfl, inX0, by decide, wf_X0_29, rfl, tyX0_ok, nmX0⟩
theorem wf_X0_43 : Cond.fieldLink RX0 43 RX0 (TX0 4).2.1 (TX0 4).2.2.1 ∈ hs_U := hs_t1 169 (by decide +kernel) rfl
theorem fl_X0_43 : hs_FL RX0 43 0 4 := ⟨RX0, TX0, 9, tyX0, rfl, inX0, by decide, wf_X0_43, rfl, tyX0_ok, nmX0⟩
theorem wf_X0_72 : Cond.fieldLink RX0 72 RX0 (TX0 5).2.1 (TX0 5).2.2.1 ∈ hs_U := hs_t1 170 (by decide +kernel) rfl
theorem fl_X0_72 : hs_FL RX0 72 0 5 := ⟨RX0, TX0, 9, tyX0, rfl, inX0, by decide, wf_X0_72, rfl, tyX0_ok, nmX0⟩
theorem wf_X0_119 : Cond.fieldLink RX0 119 RX0 (TX0 6).2.1 (TX0 6).2.2.1 ∈ hs_U := hs_t1 171 (by decide +kernel) rfl
theorem fl_X0_119 : hs_FL RX0 119 0 6 := ⟨RX0, TX0, 9, tyX0, rfl, inX0, by decide, wf_X0_119, rfl, tyX0_ok, nmX0⟩
theorem wf_X0_33 : Cond.fieldLink RX0 33 RX0 (TX0 7).2.1 (TX0 7).2.2.1 ∈ hs_U := hs_t1 172 (by decide +kernel) rfl
theorem fl_X0_33 : hs_FL RX0 33 0 7 := ⟨RX0, TX0, 9, tyX0, rfl, inX0, by decide, wf_X0_33, rfl, tyX0_ok, nmX0⟩
theorem wf_X5_73 : Cond.fieldLink RX5 73 RX0 (TX0 7).2.1 (TX0 7).2.2.1 ∈ hs_U := hs_t1 173 (by decide +kernel) rfl
theorem fl_X5_73 : hs_FL RX5 73 0 7 := ⟨RX0, TX0, 9, tyX0, rfl, inX0, by decide, wf_X5_73, rfl, tyX0_ok, nmX0⟩
theorem wf_X0_36 : Cond.fieldLink RX0 36 RX0 (TX0 8).2.1 (TX0 8).2.2.1 ∈ hs_U := hs_t1 174 (by decide +kernel) rfl
theorem fl_X0_36 : hs_FL RX0 36 0 8 := ⟨RX0, TX0, 9, tyX0, rfl, inX0, by decide, wf_X0_36, rfl, tyX0_ok, nmX0⟩
theorem wf_X5_79 : Cond.fieldLink RX5 79 RX0 (TX0 8).2.1 (TX0 8).2.2.1 ∈ hs_U := hs_t1 175 (by decide +kernel) rfl
theorem fl_X5_79 : hs_FL RX5 79 0 8 := ⟨RX0, TX0, 9, tyX0, rfl, inX0, by decide, wf_X5_79, rfl, tyX0_ok, nmX0⟩
theorem wf_X1_11 : Cond.fieldLink RX1 11 RX1 (TX1 0).2.1 (TX1 0).2.2.1 ∈ hs_U := hs_t1 202 (by decide +kernel) rfl
theorem fl_X1_11 : hs_FL RX1 11 1 0 := ⟨RX1, TX1, 3, tyX1, rfl, inX1, by decide, wf_X1_11, rfl, tyX1_ok, nmX1⟩
theorem wf_X5_251 : Cond.fieldLink RX5 251 RX1 (TX1 0).2.1 (TX1 0).2.2.1 ∈ hs_U := hs_t1 203 (by decide +kernel) rfl
theorem fl_X5_251 : hs_FL RX5 251 1 0 := ⟨RX1, TX1, 3, tyX1, rfl, inX1, by decide, wf_X5_251, rfl, tyX1_ok, nmX1⟩
theorem wf_X1_15 : Cond.fieldLink RX1 15 RX1 (TX1 1).2.1 (TX1 1).2.2.1 ∈ hs_U := hs_t1 204 (by decide +kernel) rfl
theorem fl_X1_15 : hs_FL RX1 15 1 1 := ⟨RX1, TX1, 3, tyX1, rfl, inX1, by decide, wf_X1_15, rfl, tyX1_ok, nmX1⟩
theorem wf_X5_272 : Cond.fieldLink RX5 272 RX1 (TX1 1).2.1 (TX1 1).2.2.1 ∈ hs_U := hs_t1 205 (by decide +kernel) rfl
theorem fl_X5_272 : hs_FL RX5 272 1 1 := ⟨RX1, TX1, 3, tyX1, rfl, inX1, by decide, wf_X5_272, rfl, tyX1_ok, nmX1⟩
theorem wf_X1_18 : Cond.fieldLink RX1 18 RX1 (TX1 2).2.1 (TX1 2).2.2.1 ∈ hs_U := hs_t1 206 (by decide +kernel) rfl
theorem fl_X1_18 : hs_FL RX1 18 1 2 := ⟨RX1, TX1, 3, tyX1, rfl, inX1, by decide, wf_X1_18, rfl, tyX1_ok, nmX1⟩
theorem wf_X5_10 : Cond.fieldLink RX5 10 RX5 (TX5 0).2.1 (TX5 0).2.2.1 ∈ hs_U := hs_t1 215 (by decide +kernel) rfl
theorem fl_X5_10 : hs_FL RX5 10 5 0 := ⟨RX5, TX5, 10, tyX5, rfl, inX5, by decide, wf_X5_10, rfl, tyX5_ok, nmX5⟩
theorem wf_X5_19 : Cond.fieldLink RX5 19 RX5 (TX5 1).2.1 (TX5 1).2.2.1 ∈ hs_U := hs_t1 216 (by decide +kernel) rfl
theorem fl_X5_19 : hs_FL RX5 19 5 1 := ⟨RX5, TX5, 10, tyX5, rfl, inX5, by decide, wf_X5_19, rfl, tyX5_ok, nmX5⟩
theorem wf_X5_26 : Cond.fieldLink RX5 26 RX5 (TX5 2).2.1 (TX5 2).2.2.1 ∈ hs_U := hs_t1 217 (by decide +kernel) rfl
theorem fl_X5_26 : hs_FL RX5 26 5 2 := ⟨RX5, TX5, 10, tyX5, rfl, inX5, by decide, wf_X5_26, rfl, tyX5_ok, nmX5⟩
theorem wf_X5_35 : Cond.fieldLink RX5 35 RX5 (TX5 3).2.1 (TX5 3).2.2.1 ∈ hs_U := hs_t1 218 (by decide +kernel) rfl
theorem fl_X5_35 : hs_FL RX5 35 5 3 := ⟨RX5, TX5, 10, tyX5, rfl, inX5, by decide, wf_X5_35, rfl, tyX5_ok, nmX5⟩
theorem wf_X5_39 : Cond.fieldLink RX5 39 RX5 (TX5 4).2.1 (TX5 4).2.2.1 ∈ hs_U := hs_t1 219 (by decide +kernel) rfl
theorem fl_X5_39 : hs_FL RX5 39 5 4 := ⟨RX5, TX5, 10, tyX5, rfl, inX5, by decide, wf_X5_39, rfl, tyX5_ok, nmX5⟩
theorem wf_X5_43 : Cond.fieldLink RX5 43 RX5 (TX5 5).2.1 (TX5 5).2.2.1 ∈ hs_U := hs_t1 220 (by decide +kernel) rfl
theorem fl_X5_43 : hs_FL RX5 43 5 5 := ⟨RX5, TX5, 10, tyX5, rfl, inX5, by decide, wf_X5_43, rfl, tyX5_ok, nmX5⟩
theorem wf_X5_50 : Cond.fieldLink RX5 50 RX5 (TX5 6).2.1 (TX5 6).2.2.1 ∈ hs_U := hs_t1 221 (by decide +kernel) rfl
theorem fl_X5_50 : hs_FL RX5 50 5 6 := ⟨RX5, TX5, 10, tyX5, rfl, inX5, by decide, wf_X5_50, rfl, tyX5_ok, nmX5⟩
theorem wf_X5_54 : Cond.fieldLink RX5 54 RX5 (TX5 7).2.1 (TX5 7).2.2.1 ∈ hs_U := hs_t1 222 (by decide +kernel) rfl
theorem fl_X5_54 : hs_FL RX5 54 5 7 := ⟨RX5, TX5, 10, tyX5, rfl, inX5, by decide, wf_X5_54, rfl, tyX5_ok, nmX5⟩
theorem wf_X5_76 : Cond.fieldLink RX5 76 RX5 (TX5 8).2.1 (TX5 8).2.2.1 ∈ hs_U := hs_t1 223 (by decide +kernel) rfl
theorem fl_X5_76 : hs_FL RX5 76 5 8 := ⟨RX5, TX5, 10, tyX5, rfl, inX5, by decide, wf_X5_76, rfl, tyX5_ok, nmX5⟩
theorem wf_X5_266 : Cond.fieldLink RX5 266 RX5 (TX5 9).2.1 (TX5 9).2.2.1 ∈ hs_U := hs_t1 224 (by decide +kernel) rfl
theorem fl_X5_266 : hs_FL RX5 266 5 9 := ⟨RX5, TX5, 10, tyX5, rfl, inX5, by decide, wf_X5_266, rfl, tyX5_ok, nmX5⟩
theorem wf_X6_7 : Cond.fieldLink RX6 7 RX6 (TX6 0).2.1 (TX6 0).2.2.1 ∈ hs_U := hs_t4 26 (by decide +kernel) rfl
theorem fl_X6_7 : hs_FL RX6 7 6 0 := ⟨RX6, TX6, 29, tyX6, rfl, inX6, by decide, wf_X6_7, rfl, tyX6_ok, nmX6⟩
theorem wf_X6_13 : Cond.fieldLink RX6 13 RX6 (TX6 1).2.1 (TX6 1).2.2.1 ∈ hs_U := hs_t4 27 (by decide +kernel) rfl
theorem fl_X6_13 : hs_FL RX6 13 6 1 := ⟨RX6, TX6, 29, tyX6, rfl, inX6, by decide, wf_X6_13, rfl, tyX6_ok, nmX6⟩
theorem wf_X6_16 : Cond.fieldLink RX6 16 RX6 (TX6 2).2.1 (TX6 2).2.2.1 ∈ hs_U := hs_t4 28 (by decide +kernel) rfl
theorem fl_X6_16 : hs_FL RX6 16 6 2 := ⟨RX6, TX6, 29, tyX6, rfl, inX6, by decide, wf_X6_16, rfl, tyX6_ok, nmX6⟩
theorem wf_X6_66 : Cond.fieldLink RX6 66 RX6 (TX6 3).2.1 (TX6 3).2.2.1 ∈ hs_U := hs_t4 29 (by decide +kernel) rfl
theorem fl_X6_66 : hs_FL RX6 66 6 3 := ⟨RX6, TX6, 29, tyX6, rfl, inX6, by decide, wf_X6_66, rfl, tyX6_ok, nmX6⟩
theorem wf_X6_20 : Cond.fieldLink RX6 20 RX6 (TX6 4).2.1 (TX6 4).2.2.1 ∈ hs_U := hs_t4 30 (by decide +kernel) rfl
theorem fl_X6_20 : hs_FL RX6 20 6 4 := ⟨RX6, TX6, 29, tyX6, rfl, inX6, by decide, wf_X6_20, rfl, tyX6_ok, nmX6⟩
theorem wf_X6_56 : Cond.fieldLink RX6 56 RX6 (TX6 5).2.1 (TX6 5).2.2.1 ∈ hs_U := hs_t4 31 (by decide +kernel) rfl
theorem fl_X6_56 : hs_FL RX6 56 6 5 := ⟨RX6, TX6, 29, tyX6, rfl, inX6, by decide, wf_X6_56, rfl, tyX6_ok, nmX6⟩
theorem wf_X6_60 : Cond.fieldLink RX6 60 RX6 (TX6 6).2.1 (TX6 6).2.2.1 ∈ hs_U := hs_t4 32 (by decide +kernel) rfl
theorem fl_X6_60 : hs_FL RX6 60 6 6 := ⟨RX6, TX6, 29, tyX6, rfl, inX6, by decide, wf_X6_60, rfl, tyX6_ok, nmX6⟩
theorem wf_X6_23 : Cond.fieldLink RX6 23 RX6 (TX6 7).2.1 (TX6 7).2.2.1 ∈ hs_U := hs_t4 33 (by decide +kernel) rfl
theorem fl_X6_23 : hs_FL RX6 23 6 7 := ⟨RX6, TX6, 29, tyX6, rfl, inX6, by decide, wf_X6_23, rfl, tyX6_ok, nmX6⟩
theorem wf_X6_63 : Cond.fieldLink RX6 63 RX6 (TX6 8).2.1 (TX6 8).2.2.1 ∈ hs_U := hs_t4 34 (by decide +kernel) rfl
theorem fl_X6_63 : hs_FL RX6 63 6 8 := ⟨RX6, TX6, 29, tyX6, rfl, inX6, by decide, wf_X6_63, rfl, tyX6_ok, nmX6⟩
theorem wf_X6_26 : Cond.fieldLink RX6 26 RX6 (TX6 9).2.1 (TX6 9).2.2.1 ∈ hs_U := hs_t4 35 (by decide +kernel) rfl
theorem fl_X6_26 : hs_FL RX6 26 6 9 := ⟨RX6, TX6, 29, tyX6, rfl, inX6, by decide, wf_X6_26, rfl, tyX6_ok, nmX6⟩
theorem wf_X6_75 : Cond.fieldLink RX6 75 RX6 (TX6 10).2.1 (TX6 10).2.2.1 ∈ hs_U := hs_t4 36 (by decide +kernel) rfl
theorem fl_X6_75 : hs_FL RX6 75 6 10 := ⟨RX6, TX6, 29, tyX6, rfl, inX6, by decide, wf_X6_75, rfl, tyX6_ok, nmX6⟩
theorem wf_X6_87 : Cond.fieldLink RX6 87 RX6 (TX6 11).2.1 (TX6 11).2.2.1 ∈ hs_U := hs_t4 37 (by decide +kernel) rfl
theorem fl_X6_87 : hs_FL RX6 87 6 11 := ⟨RX6, TX6, 29, tyX6, rfl, inX6, by decide, wf_X6_87, rfl, tyX6_ok, nmX6⟩
theorem wf_X6_81 : Cond.fieldLink RX6 81 RX6 (TX6 12).2.1 (TX6 12).2.2.1 ∈ hs_U := hs_t4 38 (by decide +kernel) rfl
theorem fl_X6_81 : hs_FL RX6 81 6 12 := ⟨RX6, TX6, 29, tyX6, rfl, inX6, by decide, wf_X6_81, rfl, tyX6_ok, nmX6⟩
theorem wf_X6_98 : Cond.fieldLink RX6 98 RX6 (TX6 13).2.1 (TX6 13).2.2.1 ∈ hs_U := hs_t4 39 (by decide +kernel) rfl
theorem fl_X6_98 : hs_FL RX6 98 6 13 := ⟨RX6, TX6, 29, tyX6, rfl, inX6, by decide, wf_X6_98, rfl, tyX6_ok, nmX6⟩
theorem wf_X6_109 : Cond.fieldLink RX6 109 RX6 (TX6 14).2.1 (TX6 14).2.2.1 ∈ hs_U := hs_t4 40 (by decide +kernel) rfl
theorem fl_X6_109 : hs_FL RX6 109 6 14 := ⟨RX6, TX6, 29, tyX6, rfl, inX6, by decide, wf_X6_109, rfl, tyX6_ok, nmX6⟩
theorem wf_X6_78 : Cond.fieldLink RX6 78 RX6 (TX6 15).2.1 (TX6 15).2.2.1 ∈ hs_U := hs_t4 41 (by decide +kernel) rfl
theorem fl_X6_78 : hs_FL RX6 78 6 15 := ⟨RX6, TX6, 29, tyX6, rfl, inX6, by decide, wf_X6_78, rfl, tyX6_ok, nmX6⟩
theorem wf_X6_84 : Cond.fieldLink RX6 84 RX6 (TX6 16).2.1 (TX6 16).2.2.1 ∈ hs_U := hs_t4 42 (by decide +kernel) rfl
theorem fl_X6_84 : hs_FL RX6 84 6 16 := ⟨RX6, TX6, 29, tyX6, rfl, inX6, by decide, wf_X6_84, rfl, tyX6_ok, nmX6⟩
theorem wf_X6_140 : Cond.fieldLink RX6 140 RX6 (TX6 17).2.1 (TX6 17).2.2.1 ∈ hs_U := hs_t4 43 (by decide +kernel) rfl
theorem fl_X6_140 : hs_FL RX6 140 6 17 := ⟨RX6, TX6, 29, tyX6, rfl, inX6, by decide, wf_X6_140, rfl, tyX6_ok, nmX6⟩
theorem wf_X6_29 : Cond.fieldLink RX6 29 RX6 (TX6 18).2.1 (TX6 18).2.2.1 ∈ hs_U := hs_t4 44 (by decide +kernel) rfl
theorem fl_X6_29 : hs_FL RX6 29 6 18 := ⟨RX6, TX6, 29, tyX6, rfl, inX6, by decide, wf_X6_29, rfl, tyX6_ok, nmX6⟩
theorem wf_X6_242 : Cond.fieldLink RX6 242 RX6 (TX6 19).2.1 (TX6 19).2.2.1 ∈ hs_U := hs_t4 45 (by decide +kernel) rfl
theorem fl_X6_242 : hs_FL RX6 242 6 19 := ⟨RX6, TX6, 29, tyX6, rfl, inX6, by decide, wf_X6_242, rfl, tyX6_ok, nmX6⟩
theorem wf_X6_246 : Cond.fieldLink RX6 246 RX6 (TX6 20).2.1 (TX6 20).2.2.1 ∈ hs_U := hs_t4 46 (by decide +kernel) rfl
theorem fl_X6_246 : hs_FL RX6 246 6 20 := ⟨RX6, TX6, 29, tyX6, rfl, inX6, by decide, wf_X6_246, rfl, tyX6_ok, nmX6⟩
theorem wf_X6_249 : Cond.fieldLink RX6 249 RX6 (TX6 21).2.1 (TX6 21).2.2.1 ∈ hs_U := hs_t4 47 (by decide +kernel) rfl
theorem fl_X6_249 : hs_FL RX6 249 6 21 := ⟨RX6, TX6, 29, tyX6, rfl, inX6, by decide, wf_X6_249, rfl, tyX6_ok, nmX6⟩
theorem wf_X6_32 : Cond.fieldLink RX6 32 RX6 (TX6 22).2.1 (TX6 22).2.2.1 ∈ hs_U := hs_t4 48 (by decide +kernel) rfl
theorem fl_X6_32 : hs_FL RX6 32 6 22 := ⟨RX6, TX6, 29, tyX6, rfl, inX6, by decide, wf_X6_32, rfl, tyX6_ok, nmX6⟩
theorem wf_X6_35 : Cond.fieldLink RX6 35 RX6 (TX6 23).2.1 (TX6 23).2.2.1 ∈ hs_U := hs_t4 49 (by decide +kernel) rfl
theorem fl_X6_35 : hs_FL RX6 35 6 23 := ⟨RX6, TX6, 29, tyX6, rfl, inX6, by decide, wf_X6_35, rfl, tyX6_ok, nmX6⟩
theorem wf_X6_38 : Cond.fieldLink RX6 38 RX6 (TX6 24).2.1 (TX6 24).2.2.1 ∈ hs_U := hs_t4 50 (by decide +kernel) rfl
theorem fl_X6_38 : hs_FL RX6 38 6 24 := ⟨RX6, TX6, 29, tyX6, rfl, inX6, by decide, wf_X6_38, rfl, tyX6_ok, nmX6⟩
theorem wf_X6_41 : Cond.fieldLink RX6 41 RX6 (TX6 25).2.1 (TX6 25).2.2.1 ∈ hs_U := hs_t4 51 (by decide +kernel) rfl
theorem fl_X6_41 : hs_FL RX6 41 6 25 := ⟨RX6, TX6, 29, tyX6, rfl, inX6, by decide, wf_X6_41, rfl, tyX6_ok, nmX6⟩
theorem wf_X6_44 : Cond.fieldLink RX6 44 RX6 (TX6 26).2.1 (TX6 26).2.2.1 ∈ hs_U := hs_t4 52 (by decide +kernel) rfl
theorem fl_X6_44 : hs_FL RX6 44 6 26 := ⟨RX6, TX6, 29, tyX6, rfl, inX6, by decide, wf_X6_44, rfl, tyX6_ok, nmX6⟩
theorem wf_X6_284 : Cond.fieldLink RX6 284 RX6 (TX6 27).2.1 (TX6 27).2.2.1 ∈ hs_U := hs_t4 53 (by decide +kernel) rfl
theorem fl_X6_284 : hs_FL RX6 284 6 27 := ⟨RX6, TX6, 29, tyX6, rfl, inX6, by decide, wf_X6_284, rfl, tyX6_ok, nmX6⟩
theorem wf_X6_47 : Cond.fieldLink RX6 47 RX6 (TX6 28).2.1 (TX6 28).2.2.1 ∈ hs_U := hs_t4 54 (by decide +kernel) rfl
theorem fl_X6_47 : hs_FL RX6 47 6 28 := ⟨RX6, TX6, 29, tyX6, rfl, inX6, by decide, wf_X6_47, rfl, tyX6_ok, nmX6⟩
theorem fw_0_3 : hs_FW 0 3 .int := fun C T N h => by cases h; exact ⟨rfl, by decide +kernel⟩
theorem fw_0_4 : hs_FW 0 4 .int := fun C T N h => by cases h; exact ⟨rfl, by decide +kernel⟩
theorem fw_0_5 : hs_FW 0 5 .int := fun C T N h => by cases h; exact ⟨rfl, by decide +kernel⟩
theorem fw_0_6 : hs_FW 0 6 .int := fun C T N h => by cases h; exact ⟨rfl, by decide +kernel⟩
theorem fw_0_7 : hs_FW 0 7 .int := fun C T N h => by cases h; exact ⟨rfl, by decide +kernel⟩
theorem fw_0_8 : hs_FW 0 8 .int := fun C T N h => by cases h; exact ⟨rfl, by decide +kernel⟩
theorem fw_2_1 : hs_FW 2 1 .int := fun C T N h => by cases h; exact ⟨rfl, by decide +kernel⟩
theorem fw_3_0 : hs_FW 3 0 .int := fun C T N h => by cases h; exact ⟨rfl, by decide +kernel⟩
theorem fw_3_6 : hs_FW 3 6 .int := fun C T N h => by cases h; exact ⟨rfl, by decide +kernel⟩
theorem fw_3_9 : hs_FW 3 9 .int := fun C T N h => by cases h; exact ⟨rfl, by decide +kernel⟩
theorem fw_3_10 : hs_FW 3 10 .int := fun C T N h => by cases h; exact ⟨rfl, by decide +kernel⟩
theorem fw_4_0 : hs_FW 4 0 .int := fun C T N h => by cases h; exact ⟨rfl, by decide +kernel⟩
theorem fw_4_4 : hs_FW 4 4 .int := fun C T N h => by cases h; exact ⟨rfl, by decide +kernel⟩
theorem fw_4_7 : hs_FW 4 7 .int := fun C T N h => by cases h; exact ⟨rfl, by decide +kernel⟩
theorem fw_5_8 : hs_FW 5 8 .int := fun C T N h => by cases h; exact ⟨rfl, by decide +kernel⟩
theorem fw_5_9 : hs_FW 5 9 .int := fun C T N h => by cases h; exact ⟨rfl, by decide +kernel⟩
theorem fw_6_3 : hs_FW 6 3 .int := fun C T N h => by cases h; exact ⟨rfl, by decide +kernel⟩
theorem fw_6_5 : hs_FW 6 5 .int := fun C T N h => by cases h; exact ⟨rfl, by decide +kernel⟩
theorem fw_6_6 : hs_FW 6 6 .int := fun C T N h => by cases h; exact ⟨rfl, by decide +kernel⟩
theorem fw_6_8 : hs_FW 6 8 .int := fun C T N h => by cases h; exact ⟨rfl, by decide +kernel⟩
theorem fw_6_10 : hs_FW 6 10 .int := fun C T N h => by cases h; exact ⟨rfl, by decide +kernel⟩
theorem fw_6_11 : hs_FW 6 11 .int := fun C T N h => by cases h; exact ⟨rfl, by decide +kernel⟩
theorem fw_6_12 : hs_FW 6 12 .int := fun C T N h => by cases h; exact ⟨rfl, by decide +kernel⟩
theorem fw_6_13 : hs_FW 6 13 .int := fun C T N h => by cases h; exact ⟨rfl, by decide +kernel⟩
theorem fw_6_14 : hs_FW 6 14 .int := fun C T N h => by cases h; exact ⟨rfl, by decide +kernel⟩
theorem fw_6_15 : hs_FW 6 15 .int := fun C T N h => by cases h; exact ⟨rfl, by decide +kernel⟩
theorem fw_6_16 : hs_FW 6 16 .int := fun C T N h => by cases h; exact ⟨rfl, by decide +kernel⟩
theorem fw_6_17 : hs_FW 6 17 .int := fun C T N h => by cases h; exact ⟨rfl, by decide +kernel⟩
theorem fw_6_19 : hs_FW 6 19 .long := fun C T N h => by cases h; exact ⟨rfl, by decide +kernel⟩
theorem fw_6_20 : hs_FW 6 20 .long := fun C T N h => by cases h; exact ⟨rfl, by decide +kernel⟩
theorem fw_6_21 : hs_FW 6 21 .long := fun C T N h => by cases h; exact ⟨rfl, by decide +kernel⟩
theorem fw_6_27 : hs_FW 6 27 .int := fun C T N h => by cases h; exact ⟨rfl, by decide +kernel⟩
theorem fx_0_0 : hs_FX 0 5 0 (some (some 1)) := ⟨_, rfl, rfl⟩
theorem fx_0_1 : hs_FX 0 5 1 (some (some 8)) := ⟨_, rfl, rfl⟩
theorem fx_0_2 : hs_FX 0 5 2 (some (some 19)) := ⟨_, rfl, rfl⟩
theorem fx_0_3 : hs_FX 0 5 3 (some (some 21)) := ⟨_, rfl, rfl⟩
theorem fx_0_4 : hs_FX 0 5 4 (some (some 34)) := ⟨_, rfl, rfl⟩
theorem fx_0_5 : hs_FX 0 5 5 (some (some 57)) := ⟨_, rfl, rfl⟩
theorem fx_0_6 : hs_FX 0 5 6 (some (some 58)) := ⟨_, rfl, rfl⟩
theorem fx_0_7 : hs_FX 0 5 7 (some (some 62)) := ⟨_, rfl, rfl⟩
theorem fx_0_8 : hs_FX 0 5 8 (none) := ⟨_, rfl, rfl⟩
theorem fx_0_9 : hs_FX 0 5 9 (none) := ⟨_, rfl, rfl⟩
theorem fx_1_0 : hs_FX 1 4 0 (none) := ⟨_, rfl, rfl⟩
theorem fx_1_1 : hs_FX 1 4 1 (some (some 2)) := ⟨_, rfl, rfl⟩
theorem fx_1_2 : hs_FX 1 4 2 (some (some 3)) := ⟨_, rfl, rfl⟩
theorem fx_1_3 : hs_FX 1 4 3 (some (some 4)) := ⟨_, rfl, rfl⟩
theorem fx_1_4 : hs_FX 1 4 4 (none) := ⟨_, rfl, rfl⟩
theorem fx_1_5 : hs_FX 1 4 5 (some (some 5)) := ⟨_, rfl, rfl⟩
theorem fx_1_6 : hs_FX 1 4 6 (some (some 6)) := ⟨_, rfl, rfl⟩
theorem fx_1_7 : hs_FX 1 4 7 (none) := ⟨_, rfl, rfl⟩
theorem fx_1_8 : hs_FX 1 4 8 (some (some 7)) := ⟨_, rfl, rfl⟩
theorem ax_2 : hs_AX 2 0 4 := rfl
theorem ax_3 : hs_AX 3 0 4 := rfl
theorem ax_4 : hs_AX 4 0 4 := rfl
theorem ax_5 : hs_AX 5 0 3 := rfl
theorem ax_6 : hs_AX 6 0 3 := rfl
theorem ax_7 : hs_AX 7 0 6 := rfl
theorem fx_8_0 : hs_FX 8 3 0 (none) := ⟨_, rfl, rfl⟩
theorem fx_8_1 : hs_FX 8 3 1 (some (some 9)) := ⟨_, rfl, rfl⟩
theorem fx_8_2 : hs_FX 8 3 2 (some (some 10)) := ⟨_, rfl, rfl⟩
theorem fx_8_3 : hs_FX 8 3 3 (some (some 11)) := ⟨_, rfl, rfl⟩
theorem fx_8_4 : hs_FX 8 3 4 (some (some 12)) := ⟨_, rfl, rfl⟩
theorem fx_8_5 : hs_FX 8 3 5 (some (some 13)) := ⟨_, rfl, rfl⟩
theorem fx_8_6 : hs_FX 8 3 6 (none) := ⟨_, rfl, rfl⟩
theorem fx_8_7 : hs_FX 8 3 7 (some (some 14)) := ⟨_, rfl, rfl⟩
theorem fx_8_8 : hs_FX 8 3 8 (some (some 15)) := ⟨_, rfl, rfl⟩
theorem fx_8_9 : hs_FX 8 3 9 (none) := ⟨_, rfl, rfl⟩
theorem fx_8_10 : hs_FX 8 3 10 (none) := ⟨_, rfl, rfl⟩
theorem fx_8_11 : hs_FX 8 3 11 (some (some 16)) := ⟨_, rfl, rfl⟩
theorem fx_8_12 : hs_FX 8 3 12 (some (some 17)) := ⟨_, rfl, rfl⟩
theorem fx_8_13 : hs_FX 8 3 13 (some (some 18)) := ⟨_, rfl, rfl⟩
theorem ax_9 : hs_AX 9 0 4 := rfl
theorem ax_10 : hs_AX 10 0 4 := rfl
theorem ax_11 : hs_AX 11 0 4 := rfl
theorem ax_12 : hs_AX 12 0 4 := rfl
theorem ax_13 : hs_AX 13 0 4 := rfl
theorem ax_14 : hs_AX 14 0 3 := rfl
theorem ax_15 : hs_AX 15 0 3 := rfl
theorem ax_16 : hs_AX 16 0 6 := rfl
theorem ax_17 : hs_AX 17 0 6 := rfl
theorem ax_18 : hs_AX 18 0 6 := rfl
theorem fx_19_0 : hs_FX 19 2 0 (some (some 20)) := ⟨_, rfl, rfl⟩
theorem fx_19_1 : hs_FX 19 2 1 (none) := ⟨_, rfl, rfl⟩
theorem ax_20 : hs_AX 20 0 160 := rfl
theorem fx_21_0 : hs_FX 21 0 0 (some (some 19)) := ⟨_, rfl, rfl⟩
theorem fx_21_1 : hs_FX 21 0 1 (some (some 22)) := ⟨_, rfl, rfl⟩
theorem fx_21_2 : hs_FX 21 0 2 (some (some 33)) := ⟨_, rfl, rfl⟩
theorem fx_21_3 : hs_FX 21 0 3 (none) := ⟨_, rfl, rfl⟩
theorem fx_21_4 : hs_FX 21 0 4 (none) := ⟨_, rfl, rfl⟩
theorem fx_21_5 : hs_FX 21 0 5 (none) := ⟨_, rfl, rfl⟩
theorem fx_21_6 : hs_FX 21 0 6 (none) := ⟨_, rfl, rfl⟩
theorem fx_21_7 : hs_FX 21 0 7 (none) := ⟨_, rfl, rfl⟩
theorem fx_21_8 : hs_FX 21 0 8 (none) := ⟨_, rfl, rfl⟩
theorem fx_22_0 : hs_FX 22 3 0 (none) := ⟨_, rfl, rfl⟩
theorem fx_22_1 : hs_FX 22 3 1 (some (some 23)) := ⟨_, rfl, rfl⟩
theorem fx_22_2 : hs_FX 22 3 2 (some (some 24)) := ⟨_, rfl, rfl⟩
theorem fx_22_3 : hs_FX 22 3 3 (some (some 25)) := ⟨_, rfl, rfl⟩
theorem fx_22_4 : hs_FX 22 3 4 (some (some 26)) := ⟨_, rfl, rfl⟩
theorem fx_22_5 : hs_FX 22 3 5 (some (some 27)) := ⟨_, rfl, rfl⟩
theorem fx_22_6 : hs_FX 22 3 6 (none) := ⟨_, rfl, rfl⟩
theorem fx_22_7 : hs_FX 22 3 7 (some (some 28)) := ⟨_, rfl, rfl⟩
theorem fx_22_8 : hs_FX 22 3 8 (some (some 29)) := ⟨_, rfl, rfl⟩
theorem fx_22_9 : hs_FX 22 3 9 (none) := ⟨_, rfl, rfl⟩
theorem fx_22_10 : hs_FX 22 3 10 (none) := ⟨_, rfl, rfl⟩
theorem fx_22_11 : hs_FX 22 3 11 (some (some 30)) := ⟨_, rfl, rfl⟩
theorem fx_22_12 : hs_FX 22 3 12 (some (some 31)) := ⟨_, rfl, rfl⟩
theorem fx_22_13 : hs_FX 22 3 13 (some (some 32)) := ⟨_, rfl, rfl⟩
theorem ax_23 : hs_AX 23 0 4 := rfl
theorem ax_24 : hs_AX 24 0 4 := rfl
theorem ax_25 : hs_AX 25 0 4 := rfl
theorem ax_26 : hs_AX 26 0 4 := rfl
theorem ax_27 : hs_AX 27 0 4 := rfl
theorem ax_28 : hs_AX 28 0 3 := rfl
theorem ax_29 : hs_AX 29 0 3 := rfl
theorem ax_30 : hs_AX 30 0 6 := rfl
theorem ax_31 : hs_AX 31 0 6 := rfl
theorem ax_32 : hs_AX 32 0 6 := rfl
theorem ax_33 : hs_AX 33 0 4 := rfl
theorem ax_34 : hs_AX 34 2 2 := rfl
theorem fx_35_0 : hs_FX 35 3 0 (none) := ⟨_, rfl, rfl⟩
theorem fx_35_1 : hs_FX 35 3 1 (some (some 36)) := ⟨_, rfl, rfl⟩
theorem fx_35_2 : hs_FX 35 3 2 (some (some 37)) := ⟨_, rfl, rfl⟩
theorem fx_35_3 : hs_FX 35 3 3 (some (some 38)) := ⟨_, rfl, rfl⟩
theorem fx_35_4 : hs_FX 35 3 4 (some (some 39)) := ⟨_, rfl, rfl⟩
theorem fx_35_5 : hs_FX 35 3 5 (some (some 40)) := ⟨_, rfl, rfl⟩
theorem fx_35_6 : hs_FX 35 3 6 (none) := ⟨_, rfl, rfl⟩
theorem fx_35_7 : hs_FX 35 3 7 (some (some 41)) := ⟨_, rfl, rfl⟩
theorem fx_35_8 : hs_FX 35 3 8 (some (some 42)) := ⟨_, rfl, rfl⟩
theorem fx_35_9 : hs_FX 35 3 9 (none) := ⟨_, rfl, rfl⟩
theorem fx_35_10 : hs_FX 35 3 10 (none) := ⟨_, rfl, rfl⟩
theorem fx_35_11 : hs_FX 35 3 11 (some (some 43)) := ⟨_, rfl, rfl⟩
theorem fx_35_12 : hs_FX 35 3 12 (some (some 44)) := ⟨_, rfl, rfl⟩
theorem fx_35_13 : hs_FX 35 3 13 (some (some 45)) := ⟨_, rfl, rfl⟩
theorem ax_36 : hs_AX 36 0 4 := rfl
theorem ax_37 : hs_AX 37 0 4 := rfl
theorem ax_38 : hs_AX 38 0 4 := rfl
theorem ax_39 : hs_AX 39 0 4 := rfl
theorem ax_40 : hs_AX 40 0 4 := rfl
theorem ax_41 : hs_AX 41 0 3 := rfl
theorem ax_42 : hs_AX 42 0 3 := rfl
theorem ax_43 : hs_AX 43 0 6 := rfl
theorem ax_44 : hs_AX 44 0 6 := rfl
theorem ax_45 : hs_AX 45 0 6 := rfl
theorem fx_46_0 : hs_FX 46 3 0 (none) := ⟨_, rfl, rfl⟩
theorem fx_46_1 : hs_FX 46 3 1 (some (some 47)) := ⟨_, rfl, rfl⟩
theorem fx_46_2 : hs_FX 46 3 2 (some (some 48)) := ⟨_, rfl, rfl⟩
theorem fx_46_3 : hs_FX 46 3 3 (some (some 49)) := ⟨_, rfl, rfl⟩
theorem fx_46_4 : hs_FX 46 3 4 (some (some 50)) := ⟨_, rfl, rfl⟩
theorem fx_46_5 : hs_FX 46 3 5 (some (some 51)) := ⟨_, rfl, rfl⟩
theorem fx_46_6 : hs_FX 46 3 6 (none) := ⟨_, rfl, rfl⟩
theorem fx_46_7 : hs_FX 46 3 7 (some (some 52)) := ⟨_, rfl, rfl⟩
theorem fx_46_8 : hs_FX 46 3 8 (some (some 53)) := ⟨_, rfl, rfl⟩
theorem fx_46_9 : hs_FX 46 3 9 (none) := ⟨_, rfl, rfl⟩
theorem fx_46_10 : hs_FX 46 3 10 (none) := ⟨_, rfl, rfl⟩
theorem fx_46_11 : hs_FX 46 3 11 (some (some 54)) := ⟨_, rfl, rfl⟩
theorem fx_46_12 : hs_FX 46 3 12 (some (some 55)) := ⟨_, rfl, rfl⟩
theorem fx_46_13 : hs_FX 46 3 13 (some (some 56)) := ⟨_, rfl, rfl⟩
theorem ax_47 : hs_AX 47 0 4 := rfl
theorem ax_48 : hs_AX 48 0 4 := rfl
theorem ax_49 : hs_AX 49 0 4 := rfl
theorem ax_50 : hs_AX 50 0 4 := rfl
theorem ax_51 : hs_AX 51 0 4 := rfl
theorem ax_52 : hs_AX 52 0 3 := rfl
theorem ax_53 : hs_AX 53 0 3 := rfl
theorem ax_54 : hs_AX 54 0 6 := rfl
theorem ax_55 : hs_AX 55 0 6 := rfl
theorem ax_56 : hs_AX 56 0 6 := rfl
theorem ax_57 : hs_AX 57 1 2 := rfl
theorem fx_58_0 : hs_FX 58 1 0 (some (some 59)) := ⟨_, rfl, rfl⟩
theorem fx_58_1 : hs_FX 58 1 1 (some (some 60)) := ⟨_, rfl, rfl⟩
theorem fx_58_2 : hs_FX 58 1 2 (some (some 61)) := ⟨_, rfl, rfl⟩
theorem ax_59 : hs_AX 59 0 4 := rfl
theorem ax_60 : hs_AX 60 0 4 := rfl
theorem ax_61 : hs_AX 61 0 160 := rfl
theorem ax_62 : hs_AX 62 0 126 := rfl
theorem fx_63_0 : hs_FX 63 6 0 (some (some 64)) := ⟨_, rfl, rfl⟩
theorem fx_63_1 : hs_FX 63 6 1 (some (some 65)) := ⟨_, rfl, rfl⟩
theorem fx_63_2 : hs_FX 63 6 2 (some (some 66)) := ⟨_, rfl, rfl⟩
theorem fx_63_3 : hs_FX 63 6 3 (none) := ⟨_, rfl, rfl⟩
theorem fx_63_4 : hs_FX 63 6 4 (some (some 67)) := ⟨_, rfl, rfl⟩
theorem fx_63_5 : hs_FX 63 6 5 (none) := ⟨_, rfl, rfl⟩
theorem fx_63_6 : hs_FX 63 6 6 (none) := ⟨_, rfl, rfl⟩
theorem fx_63_7 : hs_FX 63 6 7 (some (some 68)) := ⟨_, rfl, rfl⟩
theorem fx_63_8 : hs_FX 63 6 8 (none) := ⟨_, rfl, rfl⟩
theorem fx_63_9 : hs_FX 63 6 9 (some (some 69)) := ⟨_, rfl, rfl⟩
theorem fx_63_10 : hs_FX 63 6 10 (none) := ⟨_, rfl, rfl⟩
theorem fx_63_11 : hs_FX 63 6 11 (none) := ⟨_, rfl, rfl⟩
theorem fx_63_12 : hs_FX 63 6 12 (none) := ⟨_, rfl, rfl⟩
theorem fx_63_13 : hs_FX 63 6 13 (none) := ⟨_, rfl, rfl⟩
theorem fx_63_14 : hs_FX 63 6 14 (none) := ⟨_, rfl, rfl⟩
theorem fx_63_15 : hs_FX 63 6 15 (none) := ⟨_, rfl, rfl⟩
theorem fx_63_16 : hs_FX 63 6 16 (none) := ⟨_, rfl, rfl⟩
theorem fx_63_17 : hs_FX 63 6 17 (none) := ⟨_, rfl, rfl⟩
theorem fx_63_18 : hs_FX 63 6 18 (some (some 70)) := ⟨_, rfl, rfl⟩
theorem fx_63_19 : hs_FX 63 6 19 (some none) := ⟨_, rfl, rfl⟩
theorem fx_63_20 : hs_FX 63 6 20 (some none) := ⟨_, rfl, rfl⟩
theorem fx_63_21 : hs_FX 63 6 21 (some none) := ⟨_, rfl, rfl⟩
theorem fx_63_22 : hs_FX 63 6 22 (some (some 71)) := ⟨_, rfl, rfl⟩
theorem fx_63_23 : hs_FX 63 6 23 (some (some 72)) := ⟨_, rfl, rfl⟩
theorem fx_63_24 : hs_FX 63 6 24 (some (some 73)) := ⟨_, rfl, rfl⟩
theorem fx_63_25 : hs_FX 63 6 25 (some (some 74)) := ⟨_, rfl, rfl⟩
theorem fx_63_26 : hs_FX 63 6 26 (some (some 75)) := ⟨_, rfl, rfl⟩
theorem fx_63_27 : hs_FX 63 6 27 (none) := ⟨_, rfl, rfl⟩
theorem fx_63_28 : hs_FX 63 6 28 (some (some 76)) := ⟨_, rfl, rfl⟩
theorem ax_64 : hs_AX 64 0 141 := rfl
theorem ax_65 : hs_AX 65 0 47 := rfl
theorem ax_66 : hs_AX 66 1 2 := rfl
theorem ax_67 : hs_AX 67 0 47 := rfl
theorem ax_68 : hs_AX 68 0 4 := rfl
theorem ax_69 : hs_AX 69 0 160 := rfl
theorem ax_70 : hs_AX 70 0 6 := rfl
theorem ax_71 : hs_AX 71 0 84 := rfl
theorem ax_72 : hs_AX 72 0 126 := rfl
theorem ax_73 : hs_AX 73 0 4 := rfl
theorem ax_74 : hs_AX 74 0 4 := rfl
theorem ax_75 : hs_AX 75 0 160 := rfl
theorem ax_76 : hs_AX 76 0 47 := rfl
theorem wc_X0_takeAll : Cond.code m_X0_takeAll.1 m_X0_takeAll.2.1 m_X0_takeAll.2.2.1 m_X0_takeAll.2.2.2.1 ∈ hs_U := hs_t2 24 (by decide +kernel) rfl
theorem cm_X0_takeAll : hs_CM m_X0_takeAll 0 := ⟨wc_X0_takeAll, hs_t1 5 (by decide +kernel) rfl, by decide +kernel, by decide +kernel, by decide +kernel⟩
theorem cv_X0_takeAll : hs_CV m_X0_takeAll := ⟨hs_t2 22 (by decide +kernel) rfl, hs_t2 23 (by decide +kernel) rfl⟩
theorem wc_X0_tellDone : Cond.code m_X0_tellDone.1 m_X0_tellDone.2.1 m_X0_tellDone.2.2.1 m_X0_tellDone.2.2.2.1 ∈ hs_U := hs_t2 44 (by decide +kernel) rfl
theorem cm_X0_tellDone : hs_CM m_X0_tellDone 0 := ⟨wc_X0_tellDone, hs_t1 5 (by decide +kernel) rfl, by decide +kernel, by decide +kernel, by decide +kernel⟩
theorem cv_X0_tellDone : hs_CV m_X0_tellDone := ⟨hs_t2 42 (by decide +kernel) rfl, hs_t2 43 (by decide +kernel) rfl⟩
theorem wc_X0_takeLine : Cond.code m_X0_takeLine.1 m_X0_takeLine.2.1 m_X0_takeLine.2.2.1 m_X0_takeLine.2.2.2.1 ∈ hs_U := hs_t2 53 (by decide +kernel) rfl
theorem cm_X0_takeLine : hs_CM m_X0_takeLine 0 := ⟨wc_X0_takeLine, hs_t1 5 (by decide +kernel) rfl, by decide +kernel, by decide +kernel, by decide +kernel⟩
theorem cv_X0_takeLine : hs_CV m_X0_takeLine := ⟨hs_t2 51 (by decide +kernel) rfl, hs_t2 52 (by decide +kernel) rfl⟩
theorem wc_X0_sortOfLine : Cond.code m_X0_sortOfLine.1 m_X0_sortOfLine.2.1 m_X0_sortOfLine.2.2.1 m_X0_sortOfLine.2.2.2.1 ∈ hs_U := hs_t2 57 (by decide +kernel) rfl
theorem cm_X0_sortOfLine : hs_CM m_X0_sortOfLine 0 := ⟨wc_X0_sortOfLine, hs_t1 5 (by decide +kernel) rfl, by decide +kernel, by decide +kernel, by decide +kernel⟩
theorem cv_X0_sortOfLine : hs_CV m_X0_sortOfLine := ⟨hs_t2 55 (by decide +kernel) rfl, hs_t2 56 (by decide +kernel) rfl⟩
theorem wc_X0_isNamed : Cond.code m_X0_isNamed.1 m_X0_isNamed.2.1 m_X0_isNamed.2.2.1 m_X0_isNamed.2.2.2.1 ∈ hs_U := hs_t2 62 (by decide +kernel) rfl
theorem cm_X0_isNamed : hs_CM m_X0_isNamed 1 := ⟨wc_X0_isNamed, hs_t1 5 (by decide +kernel) rfl, by decide +kernel, by decide +kernel, by decide +kernel⟩
theorem cv_X0_isNamed : hs_CV m_X0_isNamed := ⟨hs_t2 60 (by decide +kernel) rfl, hs_t2 61 (by decide +kernel) rfl⟩
theorem wc_X0_takeGhost : Cond.code m_X0_takeGhost.1 m_X0_takeGhost.2.1 m_X0_takeGhost.2.2.1 m_X0_takeGhost.2.2.2.1 ∈ hs_U := hs_t2 140 (by decide +kernel) rfl
theorem cm_X0_takeGhost : hs_CM m_X0_takeGhost 1 := ⟨wc_X0_takeGhost, hs_t1 5 (by decide +kernel) rfl, by decide +kernel, by decide +kernel, by decide +kernel⟩
theorem cv_X0_takeGhost : hs_CV m_X0_takeGhost := ⟨hs_t2 138 (by decide +kernel) rfl, hs_t2 139 (by decide +kernel) rfl⟩
theorem wc_X0_takeDone : Cond.code m_X0_takeDone.1 m_X0_takeDone.2.1 m_X0_takeDone.2.2.1 m_X0_takeDone.2.2.2.1 ∈ hs_U := hs_t2 119 (by decide +kernel) rfl
theorem cm_X0_takeDone : hs_CM m_X0_takeDone 0 := ⟨wc_X0_takeDone, hs_t1 5 (by decide +kernel) rfl, by decide +kernel, by decide +kernel, by decide +kernel⟩
theorem cv_X0_takeDone : hs_CV m_X0_takeDone := ⟨hs_t2 117 (by decide +kernel) rfl, hs_t2 118 (by decide +kernel) rfl⟩
theorem wc_X0_takeClerk : Cond.code m_X0_takeClerk.1 m_X0_takeClerk.2.1 m_X0_takeClerk.2.2.1 m_X0_takeClerk.2.2.2.1 ∈ hs_U := hs_t2 132 (by decide +kernel) rfl
theorem cm_X0_takeClerk : hs_CM m_X0_takeClerk 0 := ⟨wc_X0_takeClerk, hs_t1 5 (by decide +kernel) rfl, by decide +kernel, by decide +kernel, by decide +kernel⟩
theorem cv_X0_takeClerk : hs_CV m_X0_takeClerk := ⟨hs_t2 130 (by decide +kernel) rfl, hs_t2 131 (by decide +kernel) rfl⟩
theorem wc_X0_takeNumber : Cond.code m_X0_takeNumber.1 m_X0_takeNumber.2.1 m_X0_takeNumber.2.2.1 m_X0_takeNumber.2.2.2.1 ∈ hs_U := hs_t2 123 (by decide +kernel) rfl
theorem cm_X0_takeNumber : hs_CM m_X0_takeNumber 2 := ⟨wc_X0_takeNumber, hs_t1 5 (by decide +kernel) rfl, by decide +kernel, by decide +kernel, by decide +kernel⟩
theorem cv_X0_takeNumber : hs_CV m_X0_takeNumber := ⟨hs_t2 121 (by decide +kernel) rfl, hs_t2 122 (by decide +kernel) rfl⟩
theorem wc_X0_takeSemicolon : Cond.code m_X0_takeSemicolon.1 m_X0_takeSemicolon.2.1 m_X0_takeSemicolon.2.2.1 m_X0_takeSemicolon.2.2.2.1 ∈ hs_U := hs_t2 128 (by decide +kernel) rfl
theorem cm_X0_takeSemicolon : hs_CM m_X0_takeSemicolon 0 := ⟨wc_X0_takeSemicolon, hs_t1 5 (by decide +kernel) rfl, by decide +kernel, by decide +kernel, by decide +kernel⟩
theorem cv_X0_takeSemicolon : hs_CV m_X0_takeSemicolon := ⟨hs_t2 126 (by decide +kernel) rfl, hs_t2 127 (by decide +kernel) rfl⟩
theorem wc_X0_nextToken : Cond.code m_X0_nextToken.1 m_X0_nextToken.2.1 m_X0_nextToken.2.2.1 m_X0_nextToken.2.2.2.1 ∈ hs_U := hs_t2 32 (by decide +kernel) rfl
theorem cm_X0_nextToken : hs_CM m_X0_nextToken 0 := ⟨wc_X0_nextToken, hs_t1 5 (by decide +kernel) rfl, by decide +kernel, by decide +kernel, by decide +kernel⟩
theorem cv_X0_nextToken : hs_CV m_X0_nextToken := ⟨hs_t2 30 (by decide +kernel) rfl, hs_t2 31 (by decide +kernel) rfl⟩
theorem wc_X0_passRun : Cond.code m_X0_passRun.1 m_X0_passRun.2.1 m_X0_passRun.2.2.1 m_X0_passRun.2.2.2.1 ∈ hs_U := hs_t2 36 (by decide +kernel) rfl
theorem cm_X0_passRun : hs_CM m_X0_passRun 2 := ⟨wc_X0_passRun, hs_t1 5 (by decide +kernel) rfl, by decide +kernel, by decide +kernel, by decide +kernel⟩
theorem cv_X0_passRun : hs_CV m_X0_passRun := ⟨hs_t2 34 (by decide +kernel) rfl, hs_t2 35 (by decide +kernel) rfl⟩
theorem wc_X0_refuse : Cond.code m_X0_refuse.1 m_X0_refuse.2.1 m_X0_refuse.2.2.1 m_X0_refuse.2.2.2.1 ∈ hs_U := hs_t2 40 (by decide +kernel) rfl
theorem cm_X0_refuse : hs_CM m_X0_refuse 2 := ⟨wc_X0_refuse, hs_t1 5 (by decide +kernel) rfl, by decide +kernel, by decide +kernel, by decide +kernel⟩
theorem cv_X0_refuse : hs_CV m_X0_refuse := ⟨hs_t2 38 (by decide +kernel) rfl, hs_t2 39 (by decide +kernel) rfl⟩
theorem wc_X1_isOne : Cond.code m_X1_isOne.1 m_X1_isOne.2.1 m_X1_isOne.2.2.1 m_X1_isOne.2.2.2.1 ∈ hs_U := hs_t3 200 (by decide +kernel) rfl
theorem cm_X1_isOne : hs_CM m_X1_isOne 1 := ⟨wc_X1_isOne, hs_t1 6 (by decide +kernel) rfl, by decide +kernel, by decide +kernel, by decide +kernel⟩
theorem cv_X1_isOne : hs_CV m_X1_isOne := ⟨hs_t3 198 (by decide +kernel) rfl, hs_t3 199 (by decide +kernel) rfl⟩
theorem wc_X1_isLane : Cond.code m_X1_isLane.1 m_X1_isLane.2.1 m_X1_isLane.2.2.1 m_X1_isLane.2.2.2.1 ∈ hs_U := hs_t3 205 (by decide +kernel) rfl
theorem cm_X1_isLane : hs_CM m_X1_isLane 1 := ⟨wc_X1_isLane, hs_t1 6 (by decide +kernel) rfl, by decide +kernel, by decide +kernel, by decide +kernel⟩
theorem cv_X1_isLane : hs_CV m_X1_isLane := ⟨hs_t3 203 (by decide +kernel) rfl, hs_t3 204 (by decide +kernel) rfl⟩
theorem wc_X1_isNothing : Cond.code m_X1_isNothing.1 m_X1_isNothing.2.1 m_X1_isNothing.2.2.1 m_X1_isNothing.2.2.2.1 ∈ hs_U := hs_t3 221 (by decide +kernel) rfl
theorem cm_X1_isNothing : hs_CM m_X1_isNothing 1 := ⟨wc_X1_isNothing, hs_t1 6 (by decide +kernel) rfl, by decide +kernel, by decide +kernel, by decide +kernel⟩
theorem cv_X1_isNothing : hs_CV m_X1_isNothing := ⟨hs_t3 219 (by decide +kernel) rfl, hs_t3 220 (by decide +kernel) rfl⟩
theorem wc_X1_renew : Cond.code m_X1_renew.1 m_X1_renew.2.1 m_X1_renew.2.2.1 m_X1_renew.2.2.2.1 ∈ hs_U := hs_t3 209 (by decide +kernel) rfl
theorem cm_X1_renew : hs_CM m_X1_renew 3 := ⟨wc_X1_renew, hs_t1 6 (by decide +kernel) rfl, by decide +kernel, by decide +kernel, by decide +kernel⟩
theorem cv_X1_renew : hs_CV m_X1_renew := ⟨hs_t3 207 (by decide +kernel) rfl, hs_t3 208 (by decide +kernel) rfl⟩
theorem wc_X1_faultOf : Cond.code m_X1_faultOf.1 m_X1_faultOf.2.1 m_X1_faultOf.2.2.1 m_X1_faultOf.2.2.2.1 ∈ hs_U := hs_t3 217 (by decide +kernel) rfl
theorem cm_X1_faultOf : hs_CM m_X1_faultOf 3 := ⟨wc_X1_faultOf, hs_t1 6 (by decide +kernel) rfl, by decide +kernel, by decide +kernel, by decide +kernel⟩
theorem cv_X1_faultOf : hs_CV m_X1_faultOf := ⟨hs_t3 215 (by decide +kernel) rfl, hs_t3 216 (by decide +kernel) rfl⟩
theorem wc_X1_faultOfPair : Cond.code m_X1_faultOfPair.1 m_X1_faultOfPair.2.1 m_X1_faultOfPair.2.2.1 m_X1_faultOfPair.2.2.2.1 ∈ hs_U := hs_t3 233 (by decide +kernel) rfl
theorem cm_X1_faultOfPair : hs_CM m_X1_faultOfPair 3 := ⟨wc_X1_faultOfPair, hs_t1 6 (by decide +kernel) rfl, by decide +kernel, by decide +kernel, by decide +kernel⟩
theorem cv_X1_faultOfPair : hs_CV m_X1_faultOfPair := ⟨hs_t3 231 (by decide +kernel) rfl, hs_t3 232 (by decide +kernel) rfl⟩
theorem wc_X1_cell : Cond.code m_X1_cell.1 m_X1_cell.2.1 m_X1_cell.2.2.1 m_X1_cell.2.2.2.1 ∈ hs_U := hs_t3 238 (by decide +kernel) rfl
theorem cm_X1_cell : hs_CM m_X1_cell 2 := ⟨wc_X1_cell, hs_t1 6 (by decide +kernel) rfl, by decide +kernel, by decide +kernel, by decide +kernel⟩
theorem cv_X1_cell : hs_CV m_X1_cell := ⟨hs_t3 236 (by decide +kernel) rfl, hs_t3 237 (by decide +kernel) rfl⟩
theorem wc_X1_put : Cond.code m_X1_put.1 m_X1_put.2.1 m_X1_put.2.2.1 m_X1_put.2.2.2.1 ∈ hs_U := hs_t3 225 (by decide +kernel) rfl
theorem cm_X1_put : hs_CM m_X1_put 3 := ⟨wc_X1_put, hs_t1 6 (by decide +kernel) rfl, by decide +kernel, by decide +kernel, by decide +kernel⟩
theorem cv_X1_put : hs_CV m_X1_put := ⟨hs_t3 223 (by decide +kernel) rfl, hs_t3 224 (by decide +kernel) rfl⟩
theorem wc_X3_empty : Cond.code m_X3_empty.1 m_X3_empty.2.1 m_X3_empty.2.2.1 m_X3_empty.2.2.2.1 ∈ hs_U := hs_t2 28 (by decide +kernel) rfl
theorem cm_X3_empty : hs_CM m_X3_empty 0 := ⟨wc_X3_empty, hs_t1 3 (by decide +kernel) rfl, by decide +kernel, by decide +kernel, by decide +kernel⟩
theorem cv_X3_empty : hs_CV m_X3_empty := ⟨hs_t2 26 (by decide +kernel) rfl, hs_t2 27 (by decide +kernel) rfl⟩
theorem wc_X3_become : Cond.code m_X3_become.1 m_X3_become.2.1 m_X3_become.2.2.1 m_X3_become.2.2.2.1 ∈ hs_U := hs_t2 148 (by decide +kernel) rfl
theorem cm_X3_become : hs_CM m_X3_become 1 := ⟨wc_X3_become, hs_t1 3 (by decide +kernel) rfl, by decide +kernel, by decide +kernel, by decide +kernel⟩
theorem cv_X3_become : hs_CV m_X3_become := ⟨hs_t2 146 (by decide +kernel) rfl, hs_t2 147 (by decide +kernel) rfl⟩
theorem wc_X3_hasGhost : Cond.code m_X3_hasGhost.1 m_X3_hasGhost.2.1 m_X3_hasGhost.2.2.1 m_X3_hasGhost.2.2.2.1 ∈ hs_U := hs_t2 48 (by decide +kernel) rfl
theorem cm_X3_hasGhost : hs_CM m_X3_hasGhost 1 := ⟨wc_X3_hasGhost, hs_t1 3 (by decide +kernel) rfl, by decide +kernel, by decide +kernel, by decide +kernel⟩
theorem cv_X3_hasGhost : hs_CV m_X3_hasGhost := ⟨hs_t2 46 (by decide +kernel) rfl, hs_t2 47 (by decide +kernel) rfl⟩
theorem wc_X3_hasClerk : Cond.code m_X3_hasClerk.1 m_X3_hasClerk.2.1 m_X3_hasClerk.2.2.1 m_X3_hasClerk.2.2.2.1 ∈ hs_U := hs_t2 237 (by decide +kernel) rfl
theorem cm_X3_hasClerk : hs_CM m_X3_hasClerk 1 := ⟨wc_X3_hasClerk, hs_t1 3 (by decide +kernel) rfl, by decide +kernel, by decide +kernel, by decide +kernel⟩
theorem cv_X3_hasClerk : hs_CV m_X3_hasClerk := ⟨hs_t2 235 (by decide +kernel) rfl, hs_t2 236 (by decide +kernel) rfl⟩
theorem wc_X3_addGhost : Cond.code m_X3_addGhost.1 m_X3_addGhost.2.1 m_X3_addGhost.2.2.1 m_X3_addGhost.2.2.2.1 ∈ hs_U := hs_t2 144 (by decide +kernel) rfl
theorem cm_X3_addGhost : hs_CM m_X3_addGhost 4 := ⟨wc_X3_addGhost, hs_t1 3 (by decide +kernel) rfl, by decide +kernel, by decide +kernel, by decide +kernel⟩
theorem cv_X3_addGhost : hs_CV m_X3_addGhost := ⟨hs_t2 142 (by decide +kernel) rfl, hs_t2 143 (by decide +kernel) rfl⟩
theorem wc_X3_addClerk : Cond.code m_X3_addClerk.1 m_X3_addClerk.2.1 m_X3_addClerk.2.2.1 m_X3_addClerk.2.2.2.1 ∈ hs_U := hs_t2 136 (by decide +kernel) rfl
theorem cm_X3_addClerk : hs_CM m_X3_addClerk 2 := ⟨wc_X3_addClerk, hs_t1 3 (by decide +kernel) rfl, by decide +kernel, by decide +kernel, by decide +kernel⟩
theorem cv_X3_addClerk : hs_CV m_X3_addClerk := ⟨hs_t2 134 (by decide +kernel) rfl, hs_t2 135 (by decide +kernel) rfl⟩
theorem wc_X3_told : Cond.code m_X3_told.1 m_X3_told.2.1 m_X3_told.2.2.1 m_X3_told.2.2.2.1 ∈ hs_U := hs_t2 216 (by decide +kernel) rfl
theorem cm_X3_told : hs_CM m_X3_told 2 := ⟨wc_X3_told, hs_t1 3 (by decide +kernel) rfl, by decide +kernel, by decide +kernel, by decide +kernel⟩
theorem cv_X3_told : hs_CV m_X3_told := ⟨hs_t2 214 (by decide +kernel) rfl, hs_t2 215 (by decide +kernel) rfl⟩
theorem wc_X3_tell : Cond.code m_X3_tell.1 m_X3_tell.2.1 m_X3_tell.2.2.1 m_X3_tell.2.2.2.1 ∈ hs_U := hs_t3 11 (by decide +kernel) rfl
theorem cm_X3_tell : hs_CM m_X3_tell 3 := ⟨wc_X3_tell, hs_t1 3 (by decide +kernel) rfl, by decide +kernel, by decide +kernel, by decide +kernel⟩
theorem cv_X3_tell : hs_CV m_X3_tell := ⟨hs_t3 9 (by decide +kernel) rfl, hs_t3 10 (by decide +kernel) rfl⟩
theorem wc_X3_answer : Cond.code m_X3_answer.1 m_X3_answer.2.1 m_X3_answer.2.2.1 m_X3_answer.2.2.2.1 ∈ hs_U := hs_t2 206 (by decide +kernel) rfl
theorem cm_X3_answer : hs_CM m_X3_answer 1 := ⟨wc_X3_answer, hs_t1 3 (by decide +kernel) rfl, by decide +kernel, by decide +kernel, by decide +kernel⟩
theorem cv_X3_answer : hs_CV m_X3_answer := ⟨hs_t2 204 (by decide +kernel) rfl, hs_t2 205 (by decide +kernel) rfl⟩
theorem wc_X3_steps : Cond.code m_X3_steps.1 m_X3_steps.2.1 m_X3_steps.2.2.1 m_X3_steps.2.2.2.1 ∈ hs_U := hs_t2 221 (by decide +kernel) rfl
theorem cm_X3_steps : hs_CM m_X3_steps 1 := ⟨wc_X3_steps, hs_t1 3 (by decide +kernel) rfl, by decide +kernel, by decide +kernel, by decide +kernel⟩
theorem cv_X3_steps : hs_CV m_X3_steps := ⟨hs_t2 219 (by decide +kernel) rfl, hs_t2 220 (by decide +kernel) rfl⟩
theorem wc_X3_left : Cond.code m_X3_left.1 m_X3_left.2.1 m_X3_left.2.2.1 m_X3_left.2.2.2.1 ∈ hs_U := hs_t2 226 (by decide +kernel) rfl
theorem cm_X3_left : hs_CM m_X3_left 1 := ⟨wc_X3_left, hs_t1 3 (by decide +kernel) rfl, by decide +kernel, by decide +kernel, by decide +kernel⟩
theorem cv_X3_left : hs_CV m_X3_left := ⟨hs_t2 224 (by decide +kernel) rfl, hs_t2 225 (by decide +kernel) rfl⟩
theorem wc_X3_creaks : Cond.code m_X3_creaks.1 m_X3_creaks.2.1 m_X3_creaks.2.2.1 m_X3_creaks.2.2.2.1 ∈ hs_U := hs_t2 199 (by decide +kernel) rfl
theorem cm_X3_creaks : hs_CM m_X3_creaks 1 := ⟨wc_X3_creaks, hs_t1 3 (by decide +kernel) rfl, by decide +kernel, by decide +kernel, by decide +kernel⟩
theorem cv_X3_creaks : hs_CV m_X3_creaks := ⟨hs_t2 197 (by decide +kernel) rfl, hs_t2 198 (by decide +kernel) rfl⟩
theorem wc_X3_creaksOfAll : Cond.code m_X3_creaksOfAll.1 m_X3_creaksOfAll.2.1 m_X3_creaksOfAll.2.2.1 m_X3_creaksOfAll.2.2.2.1 ∈ hs_U := hs_t2 195 (by decide +kernel) rfl
theorem cm_X3_creaksOfAll : hs_CM m_X3_creaksOfAll 0 := ⟨wc_X3_creaksOfAll, hs_t1 3 (by decide +kernel) rfl, by decide +kernel, by decide +kernel, by decide +kernel⟩
theorem cv_X3_creaksOfAll : hs_CV m_X3_creaksOfAll := ⟨hs_t2 193 (by decide +kernel) rfl, hs_t2 194 (by decide +kernel) rfl⟩
theorem wc_X3_skillOfAll : Cond.code m_X3_skillOfAll.1 m_X3_skillOfAll.2.1 m_X3_skillOfAll.2.2.1 m_X3_skillOfAll.2.2.2.1 ∈ hs_U := hs_t4 11 (by decide +kernel) rfl
theorem cm_X3_skillOfAll : hs_CM m_X3_skillOfAll 0 := ⟨wc_X3_skillOfAll, hs_t1 3 (by decide +kernel) rfl, by decide +kernel, by decide +kernel, by decide +kernel⟩
theorem cv_X3_skillOfAll : hs_CV m_X3_skillOfAll := ⟨hs_t4 9 (by decide +kernel) rfl, hs_t4 10 (by decide +kernel) rfl⟩
theorem wc_X3_lastSeenBehind : Cond.code m_X3_lastSeenBehind.1 m_X3_lastSeenBehind.2.1 m_X3_lastSeenBehind.2.2.1 m_X3_lastSeenBehind.2.2.2.1 ∈ hs_U := hs_t3 154 (by decide +kernel) rfl
theorem cm_X3_lastSeenBehind : hs_CM m_X3_lastSeenBehind 0 := ⟨wc_X3_lastSeenBehind, hs_t1 3 (by decide +kernel) rfl, by decide +kernel, by decide +kernel, by decide +kernel⟩
theorem cv_X3_lastSeenBehind : hs_CV m_X3_lastSeenBehind := ⟨hs_t3 152 (by decide +kernel) rfl, hs_t3 153 (by decide +kernel) rfl⟩
theorem wc_X3_agrees : Cond.code m_X3_agrees.1 m_X3_agrees.2.1 m_X3_agrees.2.2.1 m_X3_agrees.2.2.2.1 ∈ hs_U := hs_t3 158 (by decide +kernel) rfl
theorem cm_X3_agrees : hs_CM m_X3_agrees 2 := ⟨wc_X3_agrees, hs_t1 3 (by decide +kernel) rfl, by decide +kernel, by decide +kernel, by decide +kernel⟩
theorem cv_X3_agrees : hs_CV m_X3_agrees := ⟨hs_t3 156 (by decide +kernel) rfl, hs_t3 157 (by decide +kernel) rfl⟩
theorem wc_X3_settle : Cond.code m_X3_settle.1 m_X3_settle.2.1 m_X3_settle.2.2.1 m_X3_settle.2.2.2.1 ∈ hs_U := hs_t3 48 (by decide +kernel) rfl
theorem cm_X3_settle : hs_CM m_X3_settle 2 := ⟨wc_X3_settle, hs_t1 3 (by decide +kernel) rfl, by decide +kernel, by decide +kernel, by decide +kernel⟩
theorem cv_X3_settle : hs_CV m_X3_settle := ⟨hs_t3 46 (by decide +kernel) rfl, hs_t3 47 (by decide +kernel) rfl⟩
theorem wc_X4_begin : Cond.code m_X4_begin.1 m_X4_begin.2.1 m_X4_begin.2.2.1 m_X4_begin.2.2.2.1 ∈ hs_U := hs_t2 164 (by decide +kernel) rfl
theorem cm_X4_begin : hs_CM m_X4_begin 1 := ⟨wc_X4_begin, hs_t1 2 (by decide +kernel) rfl, by decide +kernel, by decide +kernel, by decide +kernel⟩
theorem cv_X4_begin : hs_CV m_X4_begin := ⟨hs_t2 162 (by decide +kernel) rfl, hs_t2 163 (by decide +kernel) rfl⟩
theorem wc_X4_reckon : Cond.code m_X4_reckon.1 m_X4_reckon.2.1 m_X4_reckon.2.2.1 m_X4_reckon.2.2.2.1 ∈ hs_U := hs_t2 168 (by decide +kernel) rfl
theorem cm_X4_reckon : hs_CM m_X4_reckon 5 := ⟨wc_X4_reckon, hs_t1 2 (by decide +kernel) rfl, by decide +kernel, by decide +kernel, by decide +kernel⟩
theorem cv_X4_reckon : hs_CV m_X4_reckon := ⟨hs_t2 166 (by decide +kernel) rfl, hs_t2 167 (by decide +kernel) rfl⟩
theorem wc_X4_go : Cond.code m_X4_go.1 m_X4_go.2.1 m_X4_go.2.2.1 m_X4_go.2.2.2.1 ∈ hs_U := hs_t3 36 (by decide +kernel) rfl
theorem cm_X4_go : hs_CM m_X4_go 1 := ⟨wc_X4_go, hs_t1 2 (by decide +kernel) rfl, by decide +kernel, by decide +kernel, by decide +kernel⟩
theorem cv_X4_go : hs_CV m_X4_go := ⟨hs_t3 34 (by decide +kernel) rfl, hs_t3 35 (by decide +kernel) rfl⟩
theorem wc_X4_goOneNight : Cond.code m_X4_goOneNight.1 m_X4_goOneNight.2.1 m_X4_goOneNight.2.2.1 m_X4_goOneNight.2.2.2.1 ∈ hs_U := hs_t3 40 (by decide +kernel) rfl
theorem cm_X4_goOneNight : hs_CM m_X4_goOneNight 0 := ⟨wc_X4_goOneNight, hs_t1 2 (by decide +kernel) rfl, by decide +kernel, by decide +kernel, by decide +kernel⟩
theorem cv_X4_goOneNight : hs_CV m_X4_goOneNight := ⟨hs_t3 38 (by decide +kernel) rfl, hs_t3 39 (by decide +kernel) rfl⟩
theorem wc_X4_work : Cond.code m_X4_work.1 m_X4_work.2.1 m_X4_work.2.2.1 m_X4_work.2.2.2.1 ∈ hs_U := hs_t3 44 (by decide +kernel) rfl
theorem cm_X4_work : hs_CM m_X4_work 2 := ⟨wc_X4_work, hs_t1 2 (by decide +kernel) rfl, by decide +kernel, by decide +kernel, by decide +kernel⟩
theorem cv_X4_work : hs_CV m_X4_work := ⟨hs_t3 42 (by decide +kernel) rfl, hs_t3 43 (by decide +kernel) rfl⟩
theorem wc_X4_tillRest : Cond.code m_X4_tillRest.1 m_X4_tillRest.2.1 m_X4_tillRest.2.2.1 m_X4_tillRest.2.2.2.1 ∈ hs_U := hs_t3 57 (by decide +kernel) rfl
theorem cm_X4_tillRest : hs_CM m_X4_tillRest 2 := ⟨wc_X4_tillRest, hs_t1 2 (by decide +kernel) rfl, by decide +kernel, by decide +kernel, by decide +kernel⟩
theorem cv_X4_tillRest : hs_CV m_X4_tillRest := ⟨hs_t3 55 (by decide +kernel) rfl, hs_t3 56 (by decide +kernel) rfl⟩
theorem wc_X4_resting : Cond.code m_X4_resting.1 m_X4_resting.2.1 m_X4_resting.2.2.1 m_X4_resting.2.2.2.1 ∈ hs_U := hs_t2 187 (by decide +kernel) rfl
theorem cm_X4_resting : hs_CM m_X4_resting 0 := ⟨wc_X4_resting, hs_t1 2 (by decide +kernel) rfl, by decide +kernel, by decide +kernel, by decide +kernel⟩
theorem cv_X4_resting : hs_CV m_X4_resting := ⟨hs_t2 185 (by decide +kernel) rfl, hs_t2 186 (by decide +kernel) rfl⟩
theorem wc_X4_leftOfAll : Cond.code m_X4_leftOfAll.1 m_X4_leftOfAll.2.1 m_X4_leftOfAll.2.2.1 m_X4_leftOfAll.2.2.2.1 ∈ hs_U := hs_t2 191 (by decide +kernel) rfl
theorem cm_X4_leftOfAll : hs_CM m_X4_leftOfAll 0 := ⟨wc_X4_leftOfAll, hs_t1 2 (by decide +kernel) rfl, by decide +kernel, by decide +kernel, by decide +kernel⟩
theorem cv_X4_leftOfAll : hs_CV m_X4_leftOfAll := ⟨hs_t2 189 (by decide +kernel) rfl, hs_t2 190 (by decide +kernel) rfl⟩
theorem wc_X5_feed : Cond.code m_X5_feed.1 m_X5_feed.2.1 m_X5_feed.2.2.1 m_X5_feed.2.2.2.1 ∈ hs_U := hs_t2 9 (by decide +kernel) rfl
theorem cm_X5_feed : hs_CM m_X5_feed 1 := ⟨wc_X5_feed, hs_t1 1 (by decide +kernel) rfl, by decide +kernel, by decide +kernel, by decide +kernel⟩
theorem cv_X5_feed : hs_CV m_X5_feed := ⟨hs_t2 7 (by decide +kernel) rfl, hs_t2 8 (by decide +kernel) rfl⟩
theorem wc_X5_end : Cond.code m_X5_end.1 m_X5_end.2.1 m_X5_end.2.2.1 m_X5_end.2.2.2.1 ∈ hs_U := hs_t2 16 (by decide +kernel) rfl
theorem cm_X5_end : hs_CM m_X5_end 1 := ⟨wc_X5_end, hs_t1 1 (by decide +kernel) rfl, by decide +kernel, by decide +kernel, by decide +kernel⟩
theorem cv_X5_end : hs_CV m_X5_end := ⟨hs_t2 14 (by decide +kernel) rfl, hs_t2 15 (by decide +kernel) rfl⟩
theorem wc_X5_text : Cond.code m_X5_text.1 m_X5_text.2.1 m_X5_text.2.2.1 m_X5_text.2.2.2.1 ∈ hs_U := hs_t2 20 (by decide +kernel) rfl
theorem cm_X5_text : hs_CM m_X5_text 0 := ⟨wc_X5_text, hs_t1 1 (by decide +kernel) rfl, by decide +kernel, by decide +kernel, by decide +kernel⟩
theorem cv_X5_text : hs_CV m_X5_text := ⟨hs_t2 18 (by decide +kernel) rfl, hs_t2 19 (by decide +kernel) rfl⟩
theorem wc_X5_fault : Cond.code m_X5_fault.1 m_X5_fault.2.1 m_X5_fault.2.2.1 m_X5_fault.2.2.2.1 ∈ hs_U := hs_t2 156 (by decide +kernel) rfl
theorem cm_X5_fault : hs_CM m_X5_fault 0 := ⟨wc_X5_fault, hs_t1 1 (by decide +kernel) rfl, by decide +kernel, by decide +kernel, by decide +kernel⟩
theorem cv_X5_fault : hs_CV m_X5_fault := ⟨hs_t2 154 (by decide +kernel) rfl, hs_t2 155 (by decide +kernel) rfl⟩
theorem wc_X5_rule : Cond.code m_X5_rule.1 m_X5_rule.2.1 m_X5_rule.2.2.1 m_X5_rule.2.2.2.1 ∈ hs_U := hs_t2 160 (by decide +kernel) rfl
theorem cm_X5_rule : hs_CM m_X5_rule 1 := ⟨wc_X5_rule, hs_t1 1 (by decide +kernel) rfl, by decide +kernel, by decide +kernel, by decide +kernel⟩
theorem cv_X5_rule : hs_CV m_X5_rule := ⟨hs_t2 158 (by decide +kernel) rfl, hs_t2 159 (by decide +kernel) rfl⟩
theorem wc_X5_ghost : Cond.code m_X5_ghost.1 m_X5_ghost.2.1 m_X5_ghost.2.2.1 m_X5_ghost.2.2.2.1 ∈ hs_U := hs_t2 211 (by decide +kernel) rfl
theorem cm_X5_ghost : hs_CM m_X5_ghost 2 := ⟨wc_X5_ghost, hs_t1 1 (by decide +kernel) rfl, by decide +kernel, by decide +kernel, by decide +kernel⟩
theorem cv_X5_ghost : hs_CV m_X5_ghost := ⟨hs_t2 209 (by decide +kernel) rfl, hs_t2 210 (by decide +kernel) rfl⟩
theorem wc_X5_clerk : Cond.code m_X5_clerk.1 m_X5_clerk.2.1 m_X5_clerk.2.2.1 m_X5_clerk.2.2.2.1 ∈ hs_U := hs_t2 233 (by decide +kernel) rfl
theorem cm_X5_clerk : hs_CM m_X5_clerk 2 := ⟨wc_X5_clerk, hs_t1 1 (by decide +kernel) rfl, by decide +kernel, by decide +kernel, by decide +kernel⟩
theorem cv_X5_clerk : hs_CV m_X5_clerk := ⟨hs_t2 231 (by decide +kernel) rfl, hs_t2 232 (by decide +kernel) rfl⟩
theorem wc_X5_alter : Cond.code m_X5_alter.1 m_X5_alter.2.1 m_X5_alter.2.2.1 m_X5_alter.2.2.2.1 ∈ hs_U := hs_t3 1 (by decide +kernel) rfl
theorem cm_X5_alter : hs_CM m_X5_alter 3 := ⟨wc_X5_alter, hs_t1 1 (by decide +kernel) rfl, by decide +kernel, by decide +kernel, by decide +kernel⟩
theorem cv_X5_alter : hs_CV m_X5_alter := ⟨hs_t2 239 (by decide +kernel) rfl, hs_t3 0 (by decide +kernel) rfl⟩
theorem wc_X5_post : Cond.code m_X5_post.1 m_X5_post.2.1 m_X5_post.2.2.1 m_X5_post.2.2.2.1 ∈ hs_U := hs_t3 15 (by decide +kernel) rfl
theorem cm_X5_post : hs_CM m_X5_post 3 := ⟨wc_X5_post, hs_t1 1 (by decide +kernel) rfl, by decide +kernel, by decide +kernel, by decide +kernel⟩
theorem cv_X5_post : hs_CV m_X5_post := ⟨hs_t3 13 (by decide +kernel) rfl, hs_t3 14 (by decide +kernel) rfl⟩
theorem wc_X5_leave : Cond.code m_X5_leave.1 m_X5_leave.2.1 m_X5_leave.2.2.1 m_X5_leave.2.2.2.1 ∈ hs_U := hs_t3 19 (by decide +kernel) rfl
theorem cm_X5_leave : hs_CM m_X5_leave 4 := ⟨wc_X5_leave, hs_t1 1 (by decide +kernel) rfl, by decide +kernel, by decide +kernel, by decide +kernel⟩
theorem cv_X5_leave : hs_CV m_X5_leave := ⟨hs_t3 17 (by decide +kernel) rfl, hs_t3 18 (by decide +kernel) rfl⟩
theorem wc_X5_nights : Cond.code m_X5_nights.1 m_X5_nights.2.1 m_X5_nights.2.2.1 m_X5_nights.2.2.2.1 ∈ hs_U := hs_t3 24 (by decide +kernel) rfl
theorem cm_X5_nights : hs_CM m_X5_nights 1 := ⟨wc_X5_nights, hs_t1 1 (by decide +kernel) rfl, by decide +kernel, by decide +kernel, by decide +kernel⟩
theorem cv_X5_nights : hs_CV m_X5_nights := ⟨hs_t3 22 (by decide +kernel) rfl, hs_t3 23 (by decide +kernel) rfl⟩
theorem wc_X5_runs : Cond.code m_X5_runs.1 m_X5_runs.2.1 m_X5_runs.2.2.1 m_X5_runs.2.2.2.1 ∈ hs_U := hs_t3 53 (by decide +kernel) rfl
theorem cm_X5_runs : hs_CM m_X5_runs 2 := ⟨wc_X5_runs, hs_t1 1 (by decide +kernel) rfl, by decide +kernel, by decide +kernel, by decide +kernel⟩
theorem cv_X5_runs : hs_CV m_X5_runs := ⟨hs_t3 51 (by decide +kernel) rfl, hs_t3 52 (by decide +kernel) rfl⟩
theorem wc_X5_ahead : Cond.code m_X5_ahead.1 m_X5_ahead.2.1 m_X5_ahead.2.2.1 m_X5_ahead.2.2.2.1 ∈ hs_U := hs_t3 62 (by decide +kernel) rfl
theorem cm_X5_ahead : hs_CM m_X5_ahead 3 := ⟨wc_X5_ahead, hs_t1 1 (by decide +kernel) rfl, by decide +kernel, by decide +kernel, by decide +kernel⟩
theorem cv_X5_ahead : hs_CV m_X5_ahead := ⟨hs_t3 60 (by decide +kernel) rfl, hs_t3 61 (by decide +kernel) rfl⟩
theorem wc_X5_rests : Cond.code m_X5_rests.1 m_X5_rests.2.1 m_X5_rests.2.2.1 m_X5_rests.2.2.2.1 ∈ hs_U := hs_t3 66 (by decide +kernel) rfl
theorem cm_X5_rests : hs_CM m_X5_rests 1 := ⟨wc_X5_rests, hs_t1 1 (by decide +kernel) rfl, by decide +kernel, by decide +kernel, by decide +kernel⟩
theorem cv_X5_rests : hs_CV m_X5_rests := ⟨hs_t3 64 (by decide +kernel) rfl, hs_t3 65 (by decide +kernel) rfl⟩
theorem wc_X5_meets : Cond.code m_X5_meets.1 m_X5_meets.2.1 m_X5_meets.2.2.1 m_X5_meets.2.2.2.1 ∈ hs_U := hs_t3 70 (by decide +kernel) rfl
theorem cm_X5_meets : hs_CM m_X5_meets 2 := ⟨wc_X5_meets, hs_t1 1 (by decide +kernel) rfl, by decide +kernel, by decide +kernel, by decide +kernel⟩
theorem cv_X5_meets : hs_CV m_X5_meets := ⟨hs_t3 68 (by decide +kernel) rfl, hs_t3 69 (by decide +kernel) rfl⟩
theorem wc_X5_harm : Cond.code m_X5_harm.1 m_X5_harm.2.1 m_X5_harm.2.2.1 m_X5_harm.2.2.2.1 ∈ hs_U := hs_t3 75 (by decide +kernel) rfl
theorem cm_X5_harm : hs_CM m_X5_harm 2 := ⟨wc_X5_harm, hs_t1 1 (by decide +kernel) rfl, by decide +kernel, by decide +kernel, by decide +kernel⟩
theorem cv_X5_harm : hs_CV m_X5_harm := ⟨hs_t3 73 (by decide +kernel) rfl, hs_t3 74 (by decide +kernel) rfl⟩
theorem wc_X5_best : Cond.code m_X5_best.1 m_X5_best.2.1 m_X5_best.2.2.1 m_X5_best.2.2.2.1 ∈ hs_U := hs_t3 79 (by decide +kernel) rfl
theorem cm_X5_best : hs_CM m_X5_best 2 := ⟨wc_X5_best, hs_t1 1 (by decide +kernel) rfl, by decide +kernel, by decide +kernel, by decide +kernel⟩
theorem cv_X5_best : hs_CV m_X5_best := ⟨hs_t3 77 (by decide +kernel) rfl, hs_t3 78 (by decide +kernel) rfl⟩
theorem wc_X5_learn : Cond.code m_X5_learn.1 m_X5_learn.2.1 m_X5_learn.2.2.1 m_X5_learn.2.2.2.1 ∈ hs_U := hs_t3 94 (by decide +kernel) rfl
theorem cm_X5_learn : hs_CM m_X5_learn 2 := ⟨wc_X5_learn, hs_t1 1 (by decide +kernel) rfl, by decide +kernel, by decide +kernel, by decide +kernel⟩
theorem cv_X5_learn : hs_CV m_X5_learn := ⟨hs_t3 92 (by decide +kernel) rfl, hs_t3 93 (by decide +kernel) rfl⟩
theorem wc_X5_quiet : Cond.code m_X5_quiet.1 m_X5_quiet.2.1 m_X5_quiet.2.2.1 m_X5_quiet.2.2.2.1 ∈ hs_U := hs_t3 98 (by decide +kernel) rfl
theorem cm_X5_quiet : hs_CM m_X5_quiet 2 := ⟨wc_X5_quiet, hs_t1 1 (by decide +kernel) rfl, by decide +kernel, by decide +kernel, by decide +kernel⟩
theorem cv_X5_quiet : hs_CV m_X5_quiet := ⟨hs_t3 96 (by decide +kernel) rfl, hs_t3 97 (by decide +kernel) rfl⟩
theorem wc_X5_better : Cond.code m_X5_better.1 m_X5_better.2.1 m_X5_better.2.2.1 m_X5_better.2.2.2.1 ∈ hs_U := hs_t3 102 (by decide +kernel) rfl
theorem cm_X5_better : hs_CM m_X5_better 3 := ⟨wc_X5_better, hs_t1 1 (by decide +kernel) rfl, by decide +kernel, by decide +kernel, by decide +kernel⟩
theorem cv_X5_better : hs_CV m_X5_better := ⟨hs_t3 100 (by decide +kernel) rfl, hs_t3 101 (by decide +kernel) rfl⟩
theorem wc_X5_from : Cond.code m_X5_from.1 m_X5_from.2.1 m_X5_from.2.2.1 m_X5_from.2.2.2.1 ∈ hs_U := hs_t3 111 (by decide +kernel) rfl
theorem cm_X5_from : hs_CM m_X5_from 2 := ⟨wc_X5_from, hs_t1 1 (by decide +kernel) rfl, by decide +kernel, by decide +kernel, by decide +kernel⟩
theorem cv_X5_from : hs_CV m_X5_from := ⟨hs_t3 109 (by decide +kernel) rfl, hs_t3 110 (by decide +kernel) rfl⟩
theorem wc_X5_luck : Cond.code m_X5_luck.1 m_X5_luck.2.1 m_X5_luck.2.2.1 m_X5_luck.2.2.2.1 ∈ hs_U := hs_t3 115 (by decide +kernel) rfl
theorem cm_X5_luck : hs_CM m_X5_luck 4 := ⟨wc_X5_luck, hs_t1 1 (by decide +kernel) rfl, by decide +kernel, by decide +kernel, by decide +kernel⟩
theorem cv_X5_luck : hs_CV m_X5_luck := ⟨hs_t3 113 (by decide +kernel) rfl, hs_t3 114 (by decide +kernel) rfl⟩
theorem wc_X5_mean : Cond.code m_X5_mean.1 m_X5_mean.2.1 m_X5_mean.2.2.1 m_X5_mean.2.2.2.1 ∈ hs_U := hs_t3 134 (by decide +kernel) rfl
theorem cm_X5_mean : hs_CM m_X5_mean 3 := ⟨wc_X5_mean, hs_t1 1 (by decide +kernel) rfl, by decide +kernel, by decide +kernel, by decide +kernel⟩
theorem cv_X5_mean : hs_CV m_X5_mean := ⟨hs_t3 132 (by decide +kernel) rfl, hs_t3 133 (by decide +kernel) rfl⟩
theorem wc_X5_see : Cond.code m_X5_see.1 m_X5_see.2.1 m_X5_see.2.2.1 m_X5_see.2.2.2.1 ∈ hs_U := hs_t3 138 (by decide +kernel) rfl
theorem cm_X5_see : hs_CM m_X5_see 3 := ⟨wc_X5_see, hs_t1 1 (by decide +kernel) rfl, by decide +kernel, by decide +kernel, by decide +kernel⟩
theorem cv_X5_see : hs_CV m_X5_see := ⟨hs_t3 136 (by decide +kernel) rfl, hs_t3 137 (by decide +kernel) rfl⟩
theorem wc_X5_forget : Cond.code m_X5_forget.1 m_X5_forget.2.1 m_X5_forget.2.2.1 m_X5_forget.2.2.2.1 ∈ hs_U := hs_t3 142 (by decide +kernel) rfl
theorem cm_X5_forget : hs_CM m_X5_forget 1 := ⟨wc_X5_forget, hs_t1 1 (by decide +kernel) rfl, by decide +kernel, by decide +kernel, by decide +kernel⟩
theorem cv_X5_forget : hs_CV m_X5_forget := ⟨hs_t3 140 (by decide +kernel) rfl, hs_t3 141 (by decide +kernel) rfl⟩
theorem wc_X5_kinds : Cond.code m_X5_kinds.1 m_X5_kinds.2.1 m_X5_kinds.2.2.1 m_X5_kinds.2.2.2.1 ∈ hs_U := hs_t3 146 (by decide +kernel) rfl
theorem cm_X5_kinds : hs_CM m_X5_kinds 1 := ⟨wc_X5_kinds, hs_t1 1 (by decide +kernel) rfl, by decide +kernel, by decide +kernel, by decide +kernel⟩
theorem cv_X5_kinds : hs_CV m_X5_kinds := ⟨hs_t3 144 (by decide +kernel) rfl, hs_t3 145 (by decide +kernel) rfl⟩
theorem wc_X5_second : Cond.code m_X5_second.1 m_X5_second.2.1 m_X5_second.2.2.1 m_X5_second.2.2.2.1 ∈ hs_U := hs_t3 162 (by decide +kernel) rfl
theorem cm_X5_second : hs_CM m_X5_second 2 := ⟨wc_X5_second, hs_t1 1 (by decide +kernel) rfl, by decide +kernel, by decide +kernel, by decide +kernel⟩
theorem cv_X5_second : hs_CV m_X5_second := ⟨hs_t3 160 (by decide +kernel) rfl, hs_t3 161 (by decide +kernel) rfl⟩
theorem wc_X5_look : Cond.code m_X5_look.1 m_X5_look.2.1 m_X5_look.2.2.1 m_X5_look.2.2.2.1 ∈ hs_U := hs_t3 166 (by decide +kernel) rfl
theorem cm_X5_look : hs_CM m_X5_look 2 := ⟨wc_X5_look, hs_t1 1 (by decide +kernel) rfl, by decide +kernel, by decide +kernel, by decide +kernel⟩
theorem cv_X5_look : hs_CV m_X5_look := ⟨hs_t3 164 (by decide +kernel) rfl, hs_t3 165 (by decide +kernel) rfl⟩
theorem wc_X5_drift : Cond.code m_X5_drift.1 m_X5_drift.2.1 m_X5_drift.2.2.1 m_X5_drift.2.2.2.1 ∈ hs_U := hs_t3 183 (by decide +kernel) rfl
theorem cm_X5_drift : hs_CM m_X5_drift 3 := ⟨wc_X5_drift, hs_t1 1 (by decide +kernel) rfl, by decide +kernel, by decide +kernel, by decide +kernel⟩
theorem cv_X5_drift : hs_CV m_X5_drift := ⟨hs_t3 181 (by decide +kernel) rfl, hs_t3 182 (by decide +kernel) rfl⟩
theorem wc_X5_keep : Cond.code m_X5_keep.1 m_X5_keep.2.1 m_X5_keep.2.2.1 m_X5_keep.2.2.2.1 ∈ hs_U := hs_t3 188 (by decide +kernel) rfl
theorem cm_X5_keep : hs_CM m_X5_keep 1 := ⟨wc_X5_keep, hs_t1 1 (by decide +kernel) rfl, by decide +kernel, by decide +kernel, by decide +kernel⟩
theorem cv_X5_keep : hs_CV m_X5_keep := ⟨hs_t3 186 (by decide +kernel) rfl, hs_t3 187 (by decide +kernel) rfl⟩
theorem wc_X5_back : Cond.code m_X5_back.1 m_X5_back.2.1 m_X5_back.2.2.1 m_X5_back.2.2.2.1 ∈ hs_U := hs_t3 192 (by decide +kernel) rfl
theorem cm_X5_back : hs_CM m_X5_back 1 := ⟨wc_X5_back, hs_t1 1 (by decide +kernel) rfl, by decide +kernel, by decide +kernel, by decide +kernel⟩
theorem cv_X5_back : hs_CV m_X5_back := ⟨hs_t3 190 (by decide +kernel) rfl, hs_t3 191 (by decide +kernel) rfl⟩
theorem wc_X5_sheet : Cond.code m_X5_sheet.1 m_X5_sheet.2.1 m_X5_sheet.2.2.1 m_X5_sheet.2.2.2.1 ∈ hs_U := hs_t3 196 (by decide +kernel) rfl
theorem cm_X5_sheet : hs_CM m_X5_sheet 3 := ⟨wc_X5_sheet, hs_t1 1 (by decide +kernel) rfl, by decide +kernel, by decide +kernel, by decide +kernel⟩
theorem cv_X5_sheet : hs_CV m_X5_sheet := ⟨hs_t3 194 (by decide +kernel) rfl, hs_t3 195 (by decide +kernel) rfl⟩
theorem wc_X5_lay : Cond.code m_X5_lay.1 m_X5_lay.2.1 m_X5_lay.2.2.1 m_X5_lay.2.2.2.1 ∈ hs_U := hs_t3 213 (by decide +kernel) rfl
theorem cm_X5_lay : hs_CM m_X5_lay 3 := ⟨wc_X5_lay, hs_t1 1 (by decide +kernel) rfl, by decide +kernel, by decide +kernel, by decide +kernel⟩
theorem cv_X5_lay : hs_CV m_X5_lay := ⟨hs_t3 211 (by decide +kernel) rfl, hs_t3 212 (by decide +kernel) rfl⟩
theorem wc_X5_read : Cond.code m_X5_read.1 m_X5_read.2.1 m_X5_read.2.2.1 m_X5_read.2.2.2.1 ∈ hs_U := hs_t3 229 (by decide +kernel) rfl
theorem cm_X5_read : hs_CM m_X5_read 4 := ⟨wc_X5_read, hs_t1 1 (by decide +kernel) rfl, by decide +kernel, by decide +kernel, by decide +kernel⟩
theorem cv_X5_read : hs_CV m_X5_read := ⟨hs_t3 227 (by decide +kernel) rfl, hs_t3 228 (by decide +kernel) rfl⟩
theorem wc_X5_torn : Cond.code m_X5_torn.1 m_X5_torn.2.1 m_X5_torn.2.2.1 m_X5_torn.2.2.2.1 ∈ hs_U := hs_t4 2 (by decide +kernel) rfl
theorem cm_X5_torn : hs_CM m_X5_torn 0 := ⟨wc_X5_torn, hs_t1 1 (by decide +kernel) rfl, by decide +kernel, by decide +kernel, by decide +kernel⟩
theorem cv_X5_torn : hs_CV m_X5_torn := ⟨hs_t4 0 (by decide +kernel) rfl, hs_t4 1 (by decide +kernel) rfl⟩
theorem wc_X5_count : Cond.code m_X5_count.1 m_X5_count.2.1 m_X5_count.2.2.1 m_X5_count.2.2.2.1 ∈ hs_U := hs_t4 6 (by decide +kernel) rfl
theorem cm_X5_count : hs_CM m_X5_count 1 := ⟨wc_X5_count, hs_t1 1 (by decide +kernel) rfl, by decide +kernel, by decide +kernel, by decide +kernel⟩
theorem cv_X5_count : hs_CV m_X5_count := ⟨hs_t4 4 (by decide +kernel) rfl, hs_t4 5 (by decide +kernel) rfl⟩
theorem wc_X5_within : Cond.code m_X5_within.1 m_X5_within.2.1 m_X5_within.2.2.1 m_X5_within.2.2.2.1 ∈ hs_U := hs_t2 12 (by decide +kernel) rfl
theorem cm_X5_within : hs_CM m_X5_within 3 := ⟨wc_X5_within, hs_t1 1 (by decide +kernel) rfl, by decide +kernel, by decide +kernel, by decide +kernel⟩
theorem wt_X5_within : Cond.static m_X5_within.1 ∈ hs_U := hs_t2 11 (by decide +kernel) rfl
theorem wc_X5_isRoom : Cond.code m_X5_isRoom.1 m_X5_isRoom.2.1 m_X5_isRoom.2.2.1 m_X5_isRoom.2.2.2.1 ∈ hs_U := hs_t3 7 (by decide +kernel) rfl
theorem cm_X5_isRoom : hs_CM m_X5_isRoom 1 := ⟨wc_X5_isRoom, hs_t1 1 (by decide +kernel) rfl, by decide +kernel, by decide +kernel, by decide +kernel⟩
theorem wt_X5_isRoom : Cond.static m_X5_isRoom.1 ∈ hs_U := hs_t3 6 (by decide +kernel) rfl
theorem wc_X5_mayBeTold : Cond.code m_X5_mayBeTold.1 m_X5_mayBeTold.2.1 m_X5_mayBeTold.2.2.1 m_X5_mayBeTold.2.2.2.1 ∈ hs_U := hs_t3 4 (by decide +kernel) rfl
theorem cm_X5_mayBeTold : hs_CM m_X5_mayBeTold 2 := ⟨wc_X5_mayBeTold, hs_t1 1 (by decide +kernel) rfl, by decide +kernel, by decide +kernel, by decide +kernel⟩
theorem wt_X5_mayBeTold : Cond.static m_X5_mayBeTold.1 ∈ hs_U := hs_t3 3 (by decide +kernel) rfl
theorem wc_X5_power : Cond.code m_X5_power.1 m_X5_power.2.1 m_X5_power.2.2.1 m_X5_power.2.2.2.1 ∈ hs_U := hs_t3 82 (by decide +kernel) rfl
theorem cm_X5_power : hs_CM m_X5_power 2 := ⟨wc_X5_power, hs_t1 1 (by decide +kernel) rfl, by decide +kernel, by decide +kernel, by decide +kernel⟩
theorem wt_X5_power : Cond.static m_X5_power.1 ∈ hs_U := hs_t3 81 (by decide +kernel) rfl
theorem wc_X5_lowestTerm : Cond.code m_X5_lowestTerm.1 m_X5_lowestTerm.2.1 m_X5_lowestTerm.2.2.1 m_X5_lowestTerm.2.2.2.1 ∈ hs_U := hs_t3 127 (by decide +kernel) rfl
theorem cm_X5_lowestTerm : hs_CM m_X5_lowestTerm 3 := ⟨wc_X5_lowestTerm, hs_t1 1 (by decide +kernel) rfl, by decide +kernel, by decide +kernel, by decide +kernel⟩
theorem wt_X5_lowestTerm : Cond.static m_X5_lowestTerm.1 ∈ hs_U := hs_t3 126 (by decide +kernel) rfl
theorem wc_X5_commonDivisor : Cond.code m_X5_commonDivisor.1 m_X5_commonDivisor.2.1 m_X5_commonDivisor.2.2.1 m_X5_commonDivisor.2.2.2.1 ∈ hs_U := hs_t3 130 (by decide +kernel) rfl
theorem cm_X5_commonDivisor : hs_CM m_X5_commonDivisor 2 := ⟨wc_X5_commonDivisor, hs_t1 1 (by decide +kernel) rfl, by decide +kernel, by decide +kernel, by decide +kernel⟩
theorem wt_X5_commonDivisor : Cond.static m_X5_commonDivisor.1 ∈ hs_U := hs_t3 129 (by decide +kernel) rfl
theorem wc_X5_answerOf : Cond.code m_X5_answerOf.1 m_X5_answerOf.2.1 m_X5_answerOf.2.2.1 m_X5_answerOf.2.2.2.1 ∈ hs_U := hs_t2 171 (by decide +kernel) rfl
theorem cm_X5_answerOf : hs_CM m_X5_answerOf 3 := ⟨wc_X5_answerOf, hs_t1 1 (by decide +kernel) rfl, by decide +kernel, by decide +kernel, by decide +kernel⟩
theorem wt_X5_answerOf : Cond.static m_X5_answerOf.1 ∈ hs_U := hs_t2 170 (by decide +kernel) rfl
theorem wc_X5_stepsOf : Cond.code m_X5_stepsOf.1 m_X5_stepsOf.2.1 m_X5_stepsOf.2.2.1 m_X5_stepsOf.2.2.2.1 ∈ hs_U := hs_t2 177 (by decide +kernel) rfl
theorem cm_X5_stepsOf : hs_CM m_X5_stepsOf 2 := ⟨wc_X5_stepsOf, hs_t1 1 (by decide +kernel) rfl, by decide +kernel, by decide +kernel, by decide +kernel⟩
theorem wt_X5_stepsOf : Cond.static m_X5_stepsOf.1 ∈ hs_U := hs_t2 176 (by decide +kernel) rfl
theorem wc_X5_figuresOf : Cond.code m_X5_figuresOf.1 m_X5_figuresOf.2.1 m_X5_figuresOf.2.2.1 m_X5_figuresOf.2.2.2.1 ∈ hs_U := hs_t2 180 (by decide +kernel) rfl
theorem cm_X5_figuresOf : hs_CM m_X5_figuresOf 1 := ⟨wc_X5_figuresOf, hs_t1 1 (by decide +kernel) rfl, by decide +kernel, by decide +kernel, by decide +kernel⟩
theorem wt_X5_figuresOf : Cond.static m_X5_figuresOf.1 ∈ hs_U := hs_t2 179 (by decide +kernel) rfl
theorem wc_X5_sevensOf : Cond.code m_X5_sevensOf.1 m_X5_sevensOf.2.1 m_X5_sevensOf.2.2.1 m_X5_sevensOf.2.2.2.1 ∈ hs_U := hs_t2 202 (by decide +kernel) rfl
theorem cm_X5_sevensOf : hs_CM m_X5_sevensOf 1 := ⟨wc_X5_sevensOf, hs_t1 1 (by decide +kernel) rfl, by decide +kernel, by decide +kernel, by decide +kernel⟩
theorem wt_X5_sevensOf : Cond.static m_X5_sevensOf.1 ∈ hs_U := hs_t2 201 (by decide +kernel) rfl
theorem wc_X5_walkFromNow : Cond.code m_X5_walkFromNow.1 m_X5_walkFromNow.2.1 m_X5_walkFromNow.2.2.1 m_X5_walkFromNow.2.2.2.1 ∈ hs_U := hs_t3 32 (by decide +kernel) rfl
theorem cm_X5_walkFromNow : hs_CM m_X5_walkFromNow 1 := ⟨wc_X5_walkFromNow, hs_t1 1 (by decide +kernel) rfl, by decide +kernel, by decide +kernel, by decide +kernel⟩
theorem cv_X5_walkFromNow : hs_CV m_X5_walkFromNow := ⟨hs_t3 31 (by decide +kernel) rfl, hs_t0 1 (by decide +kernel) rfl⟩
theorem wc_X5_harmOf : Cond.code m_X5_harmOf.1 m_X5_harmOf.2.1 m_X5_harmOf.2.2.1 m_X5_harmOf.2.2.2.1 ∈ hs_U := hs_t3 28 (by decide +kernel) rfl
theorem cm_X5_harmOf : hs_CM m_X5_harmOf 1 := ⟨wc_X5_harmOf, hs_t1 1 (by decide +kernel) rfl, by decide +kernel, by decide +kernel, by decide +kernel⟩
theorem cv_X5_harmOf : hs_CV m_X5_harmOf := ⟨hs_t3 27 (by decide +kernel) rfl, hs_t0 0 (by decide +kernel) rfl⟩
theorem wc_X5_harmWith : Cond.code m_X5_harmWith.1 m_X5_harmWith.2.1 m_X5_harmWith.2.2.1 m_X5_harmWith.2.2.2.1 ∈ hs_U := hs_t3 106 (by decide +kernel) rfl
theorem cm_X5_harmWith : hs_CM m_X5_harmWith 3 := ⟨wc_X5_harmWith, hs_t1 1 (by decide +kernel) rfl, by decide +kernel, by decide +kernel, by decide +kernel⟩
theorem cv_X5_harmWith : hs_CV m_X5_harmWith := ⟨hs_t3 105 (by decide +kernel) rfl, hs_t0 4 (by decide +kernel) rfl⟩
theorem wc_X5_harmByPlan : Cond.code m_X5_harmByPlan.1 m_X5_harmByPlan.2.1 m_X5_harmByPlan.2.2.1 m_X5_harmByPlan.2.2.2.1 ∈ hs_U := hs_t3 86 (by decide +kernel) rfl
theorem cm_X5_harmByPlan : hs_CM m_X5_harmByPlan 2 := ⟨wc_X5_harmByPlan, hs_t1 1 (by decide +kernel) rfl, by decide +kernel, by decide +kernel, by decide +kernel⟩
theorem cv_X5_harmByPlan : hs_CV m_X5_harmByPlan := ⟨hs_t3 85 (by decide +kernel) rfl, hs_t0 2 (by decide +kernel) rfl⟩
theorem wc_X5_deskByPlan : Cond.code m_X5_deskByPlan.1 m_X5_deskByPlan.2.1 m_X5_deskByPlan.2.2.1 m_X5_deskByPlan.2.2.2.1 ∈ hs_U := hs_t3 90 (by decide +kernel) rfl
theorem cm_X5_deskByPlan : hs_CM m_X5_deskByPlan 2 := ⟨wc_X5_deskByPlan, hs_t1 1 (by decide +kernel) rfl, by decide +kernel, by decide +kernel, by decide +kernel⟩
theorem cv_X5_deskByPlan : hs_CV m_X5_deskByPlan := ⟨hs_t3 89 (by decide +kernel) rfl, hs_t0 3 (by decide +kernel) rfl⟩
theorem wc_X5_goWithout : Cond.code m_X5_goWithout.1 m_X5_goWithout.2.1 m_X5_goWithout.2.2.1 m_X5_goWithout.2.2.2.1 ∈ hs_U := hs_t3 120 (by decide +kernel) rfl
theorem cm_X5_goWithout : hs_CM m_X5_goWithout 2 := ⟨wc_X5_goWithout, hs_t1 1 (by decide +kernel) rfl, by decide +kernel, by decide +kernel, by decide +kernel⟩
theorem cv_X5_goWithout : hs_CV m_X5_goWithout := ⟨hs_t3 119 (by decide +kernel) rfl, hs_t0 5 (by decide +kernel) rfl⟩
theorem wc_X5_weight : Cond.code m_X5_weight.1 m_X5_weight.2.1 m_X5_weight.2.2.1 m_X5_weight.2.2.2.1 ∈ hs_U := hs_t3 124 (by decide +kernel) rfl
theorem cm_X5_weight : hs_CM m_X5_weight 2 := ⟨wc_X5_weight, hs_t1 1 (by decide +kernel) rfl, by decide +kernel, by decide +kernel, by decide +kernel⟩
theorem cv_X5_weight : hs_CV m_X5_weight := ⟨hs_t3 123 (by decide +kernel) rfl, hs_t0 6 (by decide +kernel) rfl⟩
theorem wc_X5_isAsSeen : Cond.code m_X5_isAsSeen.1 m_X5_isAsSeen.2.1 m_X5_isAsSeen.2.2.1 m_X5_isAsSeen.2.2.2.1 ∈ hs_U := hs_t3 150 (by decide +kernel) rfl
theorem cm_X5_isAsSeen : hs_CM m_X5_isAsSeen 3 := ⟨wc_X5_isAsSeen, hs_t1 1 (by decide +kernel) rfl, by decide +kernel, by decide +kernel, by decide +kernel⟩
theorem cv_X5_isAsSeen : hs_CV m_X5_isAsSeen := ⟨hs_t3 149 (by decide +kernel) rfl, hs_t0 7 (by decide +kernel) rfl⟩
theorem wc_X5_tallyRooms : Cond.code m_X5_tallyRooms.1 m_X5_tallyRooms.2.1 m_X5_tallyRooms.2.2.1 m_X5_tallyRooms.2.2.2.1 ∈ hs_U := hs_t3 170 (by decide +kernel) rfl
theorem cm_X5_tallyRooms : hs_CM m_X5_tallyRooms 1 := ⟨wc_X5_tallyRooms, hs_t1 1 (by decide +kernel) rfl, by decide +kernel, by decide +kernel, by decide +kernel⟩
theorem cv_X5_tallyRooms : hs_CV m_X5_tallyRooms := ⟨hs_t3 169 (by decide +kernel) rfl, hs_t0 8 (by decide +kernel) rfl⟩
theorem wc_X5_tallyTrail : Cond.code m_X5_tallyTrail.1 m_X5_tallyTrail.2.1 m_X5_tallyTrail.2.2.1 m_X5_tallyTrail.2.2.2.1 ∈ hs_U := hs_t3 174 (by decide +kernel) rfl
theorem cm_X5_tallyTrail : hs_CM m_X5_tallyTrail 2 := ⟨wc_X5_tallyTrail, hs_t1 1 (by decide +kernel) rfl, by decide +kernel, by decide +kernel, by decide +kernel⟩
theorem cv_X5_tallyTrail : hs_CV m_X5_tallyTrail := ⟨hs_t3 173 (by decide +kernel) rfl, hs_t0 9 (by decide +kernel) rfl⟩
theorem wc_X5_worstBehind : Cond.code m_X5_worstBehind.1 m_X5_worstBehind.2.1 m_X5_worstBehind.2.2.1 m_X5_worstBehind.2.2.2.1 ∈ hs_U := hs_t3 178 (by decide +kernel) rfl
theorem cm_X5_worstBehind : hs_CM m_X5_worstBehind 1 := ⟨wc_X5_worstBehind, hs_t1 1 (by decide +kernel) rfl, by decide +kernel, by decide +kernel, by decide +kernel⟩
theorem cv_X5_worstBehind : hs_CV m_X5_worstBehind := ⟨hs_t3 177 (by decide +kernel) rfl, hs_t0 10 (by decide +kernel) rfl⟩
theorem wc_X6_in : Cond.code m_X6_in.1 m_X6_in.2.1 m_X6_in.2.2.1 m_X6_in.2.2.2.1 ∈ hs_U := hs_t4 121 (by decide +kernel) rfl
theorem cm_X6_in : hs_CM m_X6_in 3 := ⟨wc_X6_in, hs_t1 7 (by decide +kernel) rfl, by decide +kernel, by decide +kernel, by decide +kernel⟩
theorem wt_X6_in : Cond.static m_X6_in.1 ∈ hs_U := hs_t4 120 (by decide +kernel) rfl
theorem wc_X6_flag : Cond.code m_X6_flag.1 m_X6_flag.2.1 m_X6_flag.2.2.1 m_X6_flag.2.2.2.1 ∈ hs_U := hs_t4 199 (by decide +kernel) rfl
theorem cm_X6_flag : hs_CM m_X6_flag 1 := ⟨wc_X6_flag, hs_t1 7 (by decide +kernel) rfl, by decide +kernel, by decide +kernel, by decide +kernel⟩
theorem wt_X6_flag : Cond.static m_X6_flag.1 ∈ hs_U := hs_t4 198 (by decide +kernel) rfl
theorem wc_X6_lesser : Cond.code m_X6_lesser.1 m_X6_lesser.2.1 m_X6_lesser.2.2.1 m_X6_lesser.2.2.2.1 ∈ hs_U := hs_t5 41 (by decide +kernel) rfl
theorem cm_X6_lesser : hs_CM m_X6_lesser 2 := ⟨wc_X6_lesser, hs_t1 7 (by decide +kernel) rfl, by decide +kernel, by decide +kernel, by decide +kernel⟩
theorem wt_X6_lesser : Cond.static m_X6_lesser.1 ∈ hs_U := hs_t5 40 (by decide +kernel) rfl
theorem wc_X6_firstDraft : Cond.code m_X6_firstDraft.1 m_X6_firstDraft.2.1 m_X6_firstDraft.2.2.1 m_X6_firstDraft.2.2.2.1 ∈ hs_U := hs_t4 21 (by decide +kernel) rfl
theorem cm_X6_firstDraft : hs_CM m_X6_firstDraft 0 := ⟨wc_X6_firstDraft, hs_t1 7 (by decide +kernel) rfl, by decide +kernel, by decide +kernel, by decide +kernel⟩
theorem cv_X6_firstDraft : hs_CV m_X6_firstDraft := ⟨hs_t4 20 (by decide +kernel) rfl, hs_t0 11 (by decide +kernel) rfl⟩
theorem wc_X6_keepDraft : Cond.code m_X6_keepDraft.1 m_X6_keepDraft.2.1 m_X6_keepDraft.2.2.1 m_X6_keepDraft.2.2.2.1 ∈ hs_U := hs_t4 25 (by decide +kernel) rfl
theorem cm_X6_keepDraft : hs_CM m_X6_keepDraft 0 := ⟨wc_X6_keepDraft, hs_t1 7 (by decide +kernel) rfl, by decide +kernel, by decide +kernel, by decide +kernel⟩
theorem cv_X6_keepDraft : hs_CV m_X6_keepDraft := ⟨hs_t4 24 (by decide +kernel) rfl, hs_t0 12 (by decide +kernel) rfl⟩
theorem wc_X6_feed : Cond.code m_X6_feed.1 m_X6_feed.2.1 m_X6_feed.2.2.1 m_X6_feed.2.2.2.1 ∈ hs_U := hs_t4 117 (by decide +kernel) rfl
theorem cm_X6_feed : hs_CM m_X6_feed 1 := ⟨wc_X6_feed, hs_t1 7 (by decide +kernel) rfl, by decide +kernel, by decide +kernel, by decide +kernel⟩
theorem cv_X6_feed : hs_CV m_X6_feed := ⟨hs_t4 115 (by decide +kernel) rfl, hs_t4 116 (by decide +kernel) rfl⟩
theorem wc_X6_end : Cond.code m_X6_end.1 m_X6_end.2.1 m_X6_end.2.2.1 m_X6_end.2.2.2.1 ∈ hs_U := hs_t4 125 (by decide +kernel) rfl
theorem cm_X6_end : hs_CM m_X6_end 1 := ⟨wc_X6_end, hs_t1 7 (by decide +kernel) rfl, by decide +kernel, by decide +kernel, by decide +kernel⟩
theorem cv_X6_end : hs_CV m_X6_end := ⟨hs_t4 123 (by decide +kernel) rfl, hs_t4 124 (by decide +kernel) rfl⟩
theorem wc_X6_needs : Cond.code m_X6_needs.1 m_X6_needs.2.1 m_X6_needs.2.2.1 m_X6_needs.2.2.2.1 ∈ hs_U := hs_t4 145 (by decide +kernel) rfl
theorem cm_X6_needs : hs_CM m_X6_needs 2 := ⟨wc_X6_needs, hs_t1 7 (by decide +kernel) rfl, by decide +kernel, by decide +kernel, by decide +kernel⟩
theorem cv_X6_needs : hs_CV m_X6_needs := ⟨hs_t4 144 (by decide +kernel) rfl, hs_t0 15 (by decide +kernel) rfl⟩
theorem wc_X6_byteAt : Cond.code m_X6_byteAt.1 m_X6_byteAt.2.1 m_X6_byteAt.2.2.1 m_X6_byteAt.2.2.2.1 ∈ hs_U := hs_t4 137 (by decide +kernel) rfl
theorem cm_X6_byteAt : hs_CM m_X6_byteAt 1 := ⟨wc_X6_byteAt, hs_t1 7 (by decide +kernel) rfl, by decide +kernel, by decide +kernel, by decide +kernel⟩
theorem cv_X6_byteAt : hs_CV m_X6_byteAt := ⟨hs_t4 136 (by decide +kernel) rfl, hs_t0 14 (by decide +kernel) rfl⟩
theorem wc_X6_is : Cond.code m_X6_is.1 m_X6_is.2.1 m_X6_is.2.2.1 m_X6_is.2.2.2.1 ∈ hs_U := hs_t4 157 (by decide +kernel) rfl
theorem cm_X6_is : hs_CM m_X6_is 6 := ⟨wc_X6_is, hs_t1 7 (by decide +kernel) rfl, by decide +kernel, by decide +kernel, by decide +kernel⟩
theorem cv_X6_is : hs_CV m_X6_is := ⟨hs_t4 156 (by decide +kernel) rfl, hs_t0 18 (by decide +kernel) rfl⟩
theorem wc_X6_lineNow : Cond.code m_X6_lineNow.1 m_X6_lineNow.2.1 m_X6_lineNow.2.2.1 m_X6_lineNow.2.2.2.1 ∈ hs_U := hs_t4 153 (by decide +kernel) rfl
theorem cm_X6_lineNow : hs_CM m_X6_lineNow 0 := ⟨wc_X6_lineNow, hs_t1 7 (by decide +kernel) rfl, by decide +kernel, by decide +kernel, by decide +kernel⟩
theorem cv_X6_lineNow : hs_CV m_X6_lineNow := ⟨hs_t4 152 (by decide +kernel) rfl, hs_t0 17 (by decide +kernel) rfl⟩
theorem wc_X6_takes : Cond.code m_X6_takes.1 m_X6_takes.2.1 m_X6_takes.2.2.1 m_X6_takes.2.2.2.1 ∈ hs_U := hs_t4 133 (by decide +kernel) rfl
theorem cm_X6_takes : hs_CM m_X6_takes 0 := ⟨wc_X6_takes, hs_t1 7 (by decide +kernel) rfl, by decide +kernel, by decide +kernel, by decide +kernel⟩
theorem cv_X6_takes : hs_CV m_X6_takes := ⟨hs_t4 132 (by decide +kernel) rfl, hs_t0 13 (by decide +kernel) rfl⟩
theorem wc_X6_looked : Cond.code m_X6_looked.1 m_X6_looked.2.1 m_X6_looked.2.2.1 m_X6_looked.2.2.2.1 ∈ hs_U := hs_t4 169 (by decide +kernel) rfl
theorem cm_X6_looked : hs_CM m_X6_looked 2 := ⟨wc_X6_looked, hs_t1 7 (by decide +kernel) rfl, by decide +kernel, by decide +kernel, by decide +kernel⟩
theorem cv_X6_looked : hs_CV m_X6_looked := ⟨hs_t4 168 (by decide +kernel) rfl, hs_t0 21 (by decide +kernel) rfl⟩
theorem wc_X6_readNumber : Cond.code m_X6_readNumber.1 m_X6_readNumber.2.1 m_X6_readNumber.2.2.1 m_X6_readNumber.2.2.2.1 ∈ hs_U := hs_t4 173 (by decide +kernel) rfl
theorem cm_X6_readNumber : hs_CM m_X6_readNumber 2 := ⟨wc_X6_readNumber, hs_t1 7 (by decide +kernel) rfl, by decide +kernel, by decide +kernel, by decide +kernel⟩
theorem cv_X6_readNumber : hs_CV m_X6_readNumber := ⟨hs_t4 172 (by decide +kernel) rfl, hs_t0 22 (by decide +kernel) rfl⟩
theorem wc_X6_readDone : Cond.code m_X6_readDone.1 m_X6_readDone.2.1 m_X6_readDone.2.2.1 m_X6_readDone.2.2.2.1 ∈ hs_U := hs_t4 165 (by decide +kernel) rfl
theorem cm_X6_readDone : hs_CM m_X6_readDone 0 := ⟨wc_X6_readDone, hs_t1 7 (by decide +kernel) rfl, by decide +kernel, by decide +kernel, by decide +kernel⟩
theorem cv_X6_readDone : hs_CV m_X6_readDone := ⟨hs_t4 164 (by decide +kernel) rfl, hs_t0 20 (by decide +kernel) rfl⟩
theorem wc_X6_readLineOf : Cond.code m_X6_readLineOf.1 m_X6_readLineOf.2.1 m_X6_readLineOf.2.2.1 m_X6_readLineOf.2.2.2.1 ∈ hs_U := hs_t4 161 (by decide +kernel) rfl
theorem cm_X6_readLineOf : hs_CM m_X6_readLineOf 1 := ⟨wc_X6_readLineOf, hs_t1 7 (by decide +kernel) rfl, by decide +kernel, by decide +kernel, by decide +kernel⟩
theorem cv_X6_readLineOf : hs_CV m_X6_readLineOf := ⟨hs_t4 160 (by decide +kernel) rfl, hs_t0 19 (by decide +kernel) rfl⟩
theorem wc_X6_readLine : Cond.code m_X6_readLine.1 m_X6_readLine.2.1 m_X6_readLine.2.2.1 m_X6_readLine.2.2.2.1 ∈ hs_U := hs_t4 149 (by decide +kernel) rfl
theorem cm_X6_readLine : hs_CM m_X6_readLine 0 := ⟨wc_X6_readLine, hs_t1 7 (by decide +kernel) rfl, by decide +kernel, by decide +kernel, by decide +kernel⟩
theorem cv_X6_readLine : hs_CV m_X6_readLine := ⟨hs_t4 148 (by decide +kernel) rfl, hs_t0 16 (by decide +kernel) rfl⟩
theorem wc_X6_text : Cond.code m_X6_text.1 m_X6_text.2.1 m_X6_text.2.2.1 m_X6_text.2.2.2.1 ∈ hs_U := hs_t4 129 (by decide +kernel) rfl
theorem cm_X6_text : hs_CM m_X6_text 0 := ⟨wc_X6_text, hs_t1 7 (by decide +kernel) rfl, by decide +kernel, by decide +kernel, by decide +kernel⟩
theorem cv_X6_text : hs_CV m_X6_text := ⟨hs_t4 127 (by decide +kernel) rfl, hs_t4 128 (by decide +kernel) rfl⟩
theorem wc_X6_fault : Cond.code m_X6_fault.1 m_X6_fault.2.1 m_X6_fault.2.2.1 m_X6_fault.2.2.2.1 ∈ hs_U := hs_t4 177 (by decide +kernel) rfl
theorem cm_X6_fault : hs_CM m_X6_fault 0 := ⟨wc_X6_fault, hs_t1 7 (by decide +kernel) rfl, by decide +kernel, by decide +kernel, by decide +kernel⟩
theorem cv_X6_fault : hs_CV m_X6_fault := ⟨hs_t4 175 (by decide +kernel) rfl, hs_t4 176 (by decide +kernel) rfl⟩
theorem wc_X6_isGhost : Cond.code m_X6_isGhost.1 m_X6_isGhost.2.1 m_X6_isGhost.2.2.1 m_X6_isGhost.2.2.2.1 ∈ hs_U := hs_t4 227 (by decide +kernel) rfl
theorem cm_X6_isGhost : hs_CM m_X6_isGhost 1 := ⟨wc_X6_isGhost, hs_t1 7 (by decide +kernel) rfl, by decide +kernel, by decide +kernel, by decide +kernel⟩
theorem cv_X6_isGhost : hs_CV m_X6_isGhost := ⟨hs_t4 226 (by decide +kernel) rfl, hs_t0 31 (by decide +kernel) rfl⟩
theorem wc_X6_isClerk : Cond.code m_X6_isClerk.1 m_X6_isClerk.2.1 m_X6_isClerk.2.2.1 m_X6_isClerk.2.2.2.1 ∈ hs_U := hs_t4 235 (by decide +kernel) rfl
theorem cm_X6_isClerk : hs_CM m_X6_isClerk 1 := ⟨wc_X6_isClerk, hs_t1 7 (by decide +kernel) rfl, by decide +kernel, by decide +kernel, by decide +kernel⟩
theorem cv_X6_isClerk : hs_CV m_X6_isClerk := ⟨hs_t4 234 (by decide +kernel) rfl, hs_t0 32 (by decide +kernel) rfl⟩
theorem wc_X6_isPart : Cond.code m_X6_isPart.1 m_X6_isPart.2.1 m_X6_isPart.2.2.1 m_X6_isPart.2.2.2.1 ∈ hs_U := hs_t4 238 (by decide +kernel) rfl
theorem cm_X6_isPart : hs_CM m_X6_isPart 1 := ⟨wc_X6_isPart, hs_t1 7 (by decide +kernel) rfl, by decide +kernel, by decide +kernel, by decide +kernel⟩
theorem wt_X6_isPart : Cond.static m_X6_isPart.1 ∈ hs_U := hs_t4 237 (by decide +kernel) rfl
theorem wc_X6_starts : Cond.code m_X6_starts.1 m_X6_starts.2.1 m_X6_starts.2.2.1 m_X6_starts.2.2.2.1 ∈ hs_U := hs_t4 185 (by decide +kernel) rfl
theorem cm_X6_starts : hs_CM m_X6_starts 0 := ⟨wc_X6_starts, hs_t1 7 (by decide +kernel) rfl, by decide +kernel, by decide +kernel, by decide +kernel⟩
theorem cv_X6_starts : hs_CV m_X6_starts := ⟨hs_t4 184 (by decide +kernel) rfl, hs_t0 23 (by decide +kernel) rfl⟩
theorem wc_X6_settles : Cond.code m_X6_settles.1 m_X6_settles.2.1 m_X6_settles.2.2.1 m_X6_settles.2.2.2.1 ∈ hs_U := hs_t5 53 (by decide +kernel) rfl
theorem cm_X6_settles : hs_CM m_X6_settles 0 := ⟨wc_X6_settles, hs_t1 7 (by decide +kernel) rfl, by decide +kernel, by decide +kernel, by decide +kernel⟩
theorem cv_X6_settles : hs_CV m_X6_settles := ⟨hs_t5 52 (by decide +kernel) rfl, hs_t0 39 (by decide +kernel) rfl⟩
theorem wc_X6_of : Cond.code m_X6_of.1 m_X6_of.2.1 m_X6_of.2.2.1 m_X6_of.2.2.2.1 ∈ hs_U := hs_t4 193 (by decide +kernel) rfl
theorem cm_X6_of : hs_CM m_X6_of 2 := ⟨wc_X6_of, hs_t1 7 (by decide +kernel) rfl, by decide +kernel, by decide +kernel, by decide +kernel⟩
theorem cv_X6_of : hs_CV m_X6_of := ⟨hs_t4 192 (by decide +kernel) rfl, hs_t0 25 (by decide +kernel) rfl⟩
theorem wc_X6_becomesOf : Cond.code m_X6_becomesOf.1 m_X6_becomesOf.2.1 m_X6_becomesOf.2.2.1 m_X6_becomesOf.2.2.2.1 ∈ hs_U := hs_t5 45 (by decide +kernel) rfl
theorem cm_X6_becomesOf : hs_CM m_X6_becomesOf 3 := ⟨wc_X6_becomesOf, hs_t1 7 (by decide +kernel) rfl, by decide +kernel, by decide +kernel, by decide +kernel⟩
theorem cv_X6_becomesOf : hs_CV m_X6_becomesOf := ⟨hs_t5 44 (by decide +kernel) rfl, hs_t0 37 (by decide +kernel) rfl⟩
theorem wc_X6_answer : Cond.code m_X6_answer.1 m_X6_answer.2.1 m_X6_answer.2.2.1 m_X6_answer.2.2.2.1 ∈ hs_U := hs_t4 203 (by decide +kernel) rfl
theorem cm_X6_answer : hs_CM m_X6_answer 1 := ⟨wc_X6_answer, hs_t1 7 (by decide +kernel) rfl, by decide +kernel, by decide +kernel, by decide +kernel⟩
theorem cv_X6_answer : hs_CV m_X6_answer := ⟨hs_t4 202 (by decide +kernel) rfl, hs_t0 26 (by decide +kernel) rfl⟩
theorem wc_X6_steps : Cond.code m_X6_steps.1 m_X6_steps.2.1 m_X6_steps.2.2.1 m_X6_steps.2.2.2.1 ∈ hs_U := hs_t4 215 (by decide +kernel) rfl
theorem cm_X6_steps : hs_CM m_X6_steps 1 := ⟨wc_X6_steps, hs_t1 7 (by decide +kernel) rfl, by decide +kernel, by decide +kernel, by decide +kernel⟩
theorem cv_X6_steps : hs_CV m_X6_steps := ⟨hs_t4 214 (by decide +kernel) rfl, hs_t0 29 (by decide +kernel) rfl⟩
theorem wc_X6_left : Cond.code m_X6_left.1 m_X6_left.2.1 m_X6_left.2.2.1 m_X6_left.2.2.2.1 ∈ hs_U := hs_t4 211 (by decide +kernel) rfl
theorem cm_X6_left : hs_CM m_X6_left 1 := ⟨wc_X6_left, hs_t1 7 (by decide +kernel) rfl, by decide +kernel, by decide +kernel, by decide +kernel⟩
theorem cv_X6_left : hs_CV m_X6_left := ⟨hs_t4 210 (by decide +kernel) rfl, hs_t0 28 (by decide +kernel) rfl⟩
theorem wc_X6_sevens : Cond.code m_X6_sevens.1 m_X6_sevens.2.1 m_X6_sevens.2.2.1 m_X6_sevens.2.2.2.1 ∈ hs_U := hs_t4 196 (by decide +kernel) rfl
theorem cm_X6_sevens : hs_CM m_X6_sevens 1 := ⟨wc_X6_sevens, hs_t1 7 (by decide +kernel) rfl, by decide +kernel, by decide +kernel, by decide +kernel⟩
theorem wt_X6_sevens : Cond.static m_X6_sevens.1 ∈ hs_U := hs_t4 195 (by decide +kernel) rfl
theorem wc_X6_creaks : Cond.code m_X6_creaks.1 m_X6_creaks.2.1 m_X6_creaks.2.2.1 m_X6_creaks.2.2.2.1 ∈ hs_U := hs_t4 189 (by decide +kernel) rfl
theorem cm_X6_creaks : hs_CM m_X6_creaks 1 := ⟨wc_X6_creaks, hs_t1 7 (by decide +kernel) rfl, by decide +kernel, by decide +kernel, by decide +kernel⟩
theorem cv_X6_creaks : hs_CV m_X6_creaks := ⟨hs_t4 188 (by decide +kernel) rfl, hs_t0 24 (by decide +kernel) rfl⟩
theorem wc_X6_firstIn : Cond.code m_X6_firstIn.1 m_X6_firstIn.2.1 m_X6_firstIn.2.2.1 m_X6_firstIn.2.2.2.1 ∈ hs_U := hs_t5 38 (by decide +kernel) rfl
theorem cm_X6_firstIn : hs_CM m_X6_firstIn 1 := ⟨wc_X6_firstIn, hs_t1 7 (by decide +kernel) rfl, by decide +kernel, by decide +kernel, by decide +kernel⟩
theorem cv_X6_firstIn : hs_CV m_X6_firstIn := ⟨hs_t5 37 (by decide +kernel) rfl, hs_t0 36 (by decide +kernel) rfl⟩
theorem wc_X6_nightGoes : Cond.code m_X6_nightGoes.1 m_X6_nightGoes.2.1 m_X6_nightGoes.2.2.1 m_X6_nightGoes.2.2.2.1 ∈ hs_U := hs_t5 34 (by decide +kernel) rfl
theorem cm_X6_nightGoes : hs_CM m_X6_nightGoes 0 := ⟨wc_X6_nightGoes, hs_t1 7 (by decide +kernel) rfl, by decide +kernel, by decide +kernel, by decide +kernel⟩
theorem cv_X6_nightGoes : hs_CV m_X6_nightGoes := ⟨hs_t5 33 (by decide +kernel) rfl, hs_t0 35 (by decide +kernel) rfl⟩
theorem wc_X6_allHarm : Cond.code m_X6_allHarm.1 m_X6_allHarm.2.1 m_X6_allHarm.2.2.1 m_X6_allHarm.2.2.2.1 ∈ hs_U := hs_t5 49 (by decide +kernel) rfl
theorem cm_X6_allHarm : hs_CM m_X6_allHarm 0 := ⟨wc_X6_allHarm, hs_t1 7 (by decide +kernel) rfl, by decide +kernel, by decide +kernel, by decide +kernel⟩
theorem cv_X6_allHarm : hs_CV m_X6_allHarm := ⟨hs_t5 48 (by decide +kernel) rfl, hs_t0 38 (by decide +kernel) rfl⟩
theorem wc_X6_harmOf : Cond.code m_X6_harmOf.1 m_X6_harmOf.2.1 m_X6_harmOf.2.2.1 m_X6_harmOf.2.2.2.1 ∈ hs_U := hs_t5 30 (by decide +kernel) rfl
theorem cm_X6_harmOf : hs_CM m_X6_harmOf 1 := ⟨wc_X6_harmOf, hs_t1 7 (by decide +kernel) rfl, by decide +kernel, by decide +kernel, by decide +kernel⟩
theorem cv_X6_harmOf : hs_CV m_X6_harmOf := ⟨hs_t5 29 (by decide +kernel) rfl, hs_t0 34 (by decide +kernel) rfl⟩
theorem wc_X6_resting : Cond.code m_X6_resting.1 m_X6_resting.2.1 m_X6_resting.2.2.1 m_X6_resting.2.2.2.1 ∈ hs_U := hs_t4 207 (by decide +kernel) rfl
theorem cm_X6_resting : hs_CM m_X6_resting 0 := ⟨wc_X6_resting, hs_t1 7 (by decide +kernel) rfl, by decide +kernel, by decide +kernel, by decide +kernel⟩
theorem cv_X6_resting : hs_CV m_X6_resting := ⟨hs_t4 206 (by decide +kernel) rfl, hs_t0 27 (by decide +kernel) rfl⟩
theorem wc_X6_allLeft : Cond.code m_X6_allLeft.1 m_X6_allLeft.2.1 m_X6_allLeft.2.2.1 m_X6_allLeft.2.2.2.1 ∈ hs_U := hs_t4 219 (by decide +kernel) rfl
theorem cm_X6_allLeft : hs_CM m_X6_allLeft 0 := ⟨wc_X6_allLeft, hs_t1 7 (by decide +kernel) rfl, by decide +kernel, by decide +kernel, by decide +kernel⟩
theorem cv_X6_allLeft : hs_CV m_X6_allLeft := ⟨hs_t4 218 (by decide +kernel) rfl, hs_t0 30 (by decide +kernel) rfl⟩
theorem wc_X6_rule : Cond.code m_X6_rule.1 m_X6_rule.2.1 m_X6_rule.2.2.1 m_X6_rule.2.2.2.1 ∈ hs_U := hs_t4 181 (by decide +kernel) rfl
theorem cm_X6_rule : hs_CM m_X6_rule 1 := ⟨wc_X6_rule, hs_t1 7 (by decide +kernel) rfl, by decide +kernel, by decide +kernel, by decide +kernel⟩
theorem cv_X6_rule : hs_CV m_X6_rule := ⟨hs_t4 179 (by decide +kernel) rfl, hs_t4 180 (by decide +kernel) rfl⟩
theorem wc_X6_ghost : Cond.code m_X6_ghost.1 m_X6_ghost.2.1 m_X6_ghost.2.2.1 m_X6_ghost.2.2.2.1 ∈ hs_U := hs_t4 223 (by decide +kernel) rfl
theorem cm_X6_ghost : hs_CM m_X6_ghost 2 := ⟨wc_X6_ghost, hs_t1 7 (by decide +kernel) rfl, by decide +kernel, by decide +kernel, by decide +kernel⟩
theorem cv_X6_ghost : hs_CV m_X6_ghost := ⟨hs_t4 221 (by decide +kernel) rfl, hs_t4 222 (by decide +kernel) rfl⟩
theorem wc_X6_clerk : Cond.code m_X6_clerk.1 m_X6_clerk.2.1 m_X6_clerk.2.2.1 m_X6_clerk.2.2.2.1 ∈ hs_U := hs_t4 231 (by decide +kernel) rfl
theorem cm_X6_clerk : hs_CM m_X6_clerk 2 := ⟨wc_X6_clerk, hs_t1 7 (by decide +kernel) rfl, by decide +kernel, by decide +kernel, by decide +kernel⟩
theorem cv_X6_clerk : hs_CV m_X6_clerk := ⟨hs_t4 229 (by decide +kernel) rfl, hs_t4 230 (by decide +kernel) rfl⟩
theorem wc_X6_becomes : Cond.code m_X6_becomes.1 m_X6_becomes.2.1 m_X6_becomes.2.2.1 m_X6_becomes.2.2.2.1 ∈ hs_U := hs_t5 13 (by decide +kernel) rfl
theorem cm_X6_becomes : hs_CM m_X6_becomes 2 := ⟨wc_X6_becomes, hs_t1 7 (by decide +kernel) rfl, by decide +kernel, by decide +kernel, by decide +kernel⟩
theorem cv_X6_becomes : hs_CV m_X6_becomes := ⟨hs_t5 12 (by decide +kernel) rfl, hs_t0 33 (by decide +kernel) rfl⟩
theorem wc_X6_canBe : Cond.code m_X6_canBe.1 m_X6_canBe.2.1 m_X6_canBe.2.2.1 m_X6_canBe.2.2.2.1 ∈ hs_U := hs_t5 5 (by decide +kernel) rfl
theorem cm_X6_canBe : hs_CM m_X6_canBe 2 := ⟨wc_X6_canBe, hs_t1 7 (by decide +kernel) rfl, by decide +kernel, by decide +kernel, by decide +kernel⟩
theorem wt_X6_canBe : Cond.static m_X6_canBe.1 ∈ hs_U := hs_t5 4 (by decide +kernel) rfl
theorem wc_X6_alter : Cond.code m_X6_alter.1 m_X6_alter.2.1 m_X6_alter.2.2.1 m_X6_alter.2.2.2.1 ∈ hs_U := hs_t5 2 (by decide +kernel) rfl
theorem cm_X6_alter : hs_CM m_X6_alter 3 := ⟨wc_X6_alter, hs_t1 7 (by decide +kernel) rfl, by decide +kernel, by decide +kernel, by decide +kernel⟩
theorem cv_X6_alter : hs_CV m_X6_alter := ⟨hs_t5 0 (by decide +kernel) rfl, hs_t5 1 (by decide +kernel) rfl⟩
theorem wc_X6_post : Cond.code m_X6_post.1 m_X6_post.2.1 m_X6_post.2.2.1 m_X6_post.2.2.2.1 ∈ hs_U := hs_t5 17 (by decide +kernel) rfl
theorem cm_X6_post : hs_CM m_X6_post 3 := ⟨wc_X6_post, hs_t1 7 (by decide +kernel) rfl, by decide +kernel, by decide +kernel, by decide +kernel⟩
theorem cv_X6_post : hs_CV m_X6_post := ⟨hs_t5 15 (by decide +kernel) rfl, hs_t5 16 (by decide +kernel) rfl⟩
theorem wc_X6_leave : Cond.code m_X6_leave.1 m_X6_leave.2.1 m_X6_leave.2.2.1 m_X6_leave.2.2.2.1 ∈ hs_U := hs_t5 21 (by decide +kernel) rfl
theorem cm_X6_leave : hs_CM m_X6_leave 4 := ⟨wc_X6_leave, hs_t1 7 (by decide +kernel) rfl, by decide +kernel, by decide +kernel, by decide +kernel⟩
theorem cv_X6_leave : hs_CV m_X6_leave := ⟨hs_t5 19 (by decide +kernel) rfl, hs_t5 20 (by decide +kernel) rfl⟩
theorem wc_X6_nights : Cond.code m_X6_nights.1 m_X6_nights.2.1 m_X6_nights.2.2.1 m_X6_nights.2.2.2.1 ∈ hs_U := hs_t5 25 (by decide +kernel) rfl
theorem cm_X6_nights : hs_CM m_X6_nights 1 := ⟨wc_X6_nights, hs_t1 7 (by decide +kernel) rfl, by decide +kernel, by decide +kernel, by decide +kernel⟩
theorem cv_X6_nights : hs_CV m_X6_nights := ⟨hs_t5 23 (by decide +kernel) rfl, hs_t5 24 (by decide +kernel) rfl⟩
theorem wc_X6_isFar : Cond.code m_X6_isFar.1 m_X6_isFar.2.1 m_X6_isFar.2.2.1 m_X6_isFar.2.2.2.1 ∈ hs_U := hs_t5 60 (by decide +kernel) rfl
theorem cm_X6_isFar : hs_CM m_X6_isFar 1 := ⟨wc_X6_isFar, hs_t1 7 (by decide +kernel) rfl, by decide +kernel, by decide +kernel, by decide +kernel⟩
theorem wt_X6_isFar : Cond.static m_X6_isFar.1 ∈ hs_U := hs_t5 59 (by decide +kernel) rfl
theorem wc_X6_runs : Cond.code m_X6_runs.1 m_X6_runs.2.1 m_X6_runs.2.2.1 m_X6_runs.2.2.2.1 ∈ hs_U := hs_t5 57 (by decide +kernel) rfl
theorem cm_X6_runs : hs_CM m_X6_runs 2 := ⟨wc_X6_runs, hs_t1 7 (by decide +kernel) rfl, by decide +kernel, by decide +kernel, by decide +kernel⟩
theorem cv_X6_runs : hs_CV m_X6_runs := ⟨hs_t5 55 (by decide +kernel) rfl, hs_t5 56 (by decide +kernel) rfl⟩
theorem wc_X6_ahead : Cond.code m_X6_ahead.1 m_X6_ahead.2.1 m_X6_ahead.2.2.1 m_X6_ahead.2.2.2.1 ∈ hs_U := hs_t5 65 (by decide +kernel) rfl
theorem cm_X6_ahead : hs_CM m_X6_ahead 3 := ⟨wc_X6_ahead, hs_t1 7 (by decide +kernel) rfl, by decide +kernel, by decide +kernel, by decide +kernel⟩
theorem cv_X6_ahead : hs_CV m_X6_ahead := ⟨hs_t5 63 (by decide +kernel) rfl, hs_t5 64 (by decide +kernel) rfl⟩
theorem wc_X6_nightsTo : Cond.code m_X6_nightsTo.1 m_X6_nightsTo.2.1 m_X6_nightsTo.2.2.1 m_X6_nightsTo.2.2.2.1 ∈ hs_U := hs_t5 73 (by decide +kernel) rfl
theorem cm_X6_nightsTo : hs_CM m_X6_nightsTo 1 := ⟨wc_X6_nightsTo, hs_t1 7 (by decide +kernel) rfl, by decide +kernel, by decide +kernel, by decide +kernel⟩
theorem cv_X6_nightsTo : hs_CV m_X6_nightsTo := ⟨hs_t5 72 (by decide +kernel) rfl, hs_t0 40 (by decide +kernel) rfl⟩
theorem wc_X6_rests : Cond.code m_X6_rests.1 m_X6_rests.2.1 m_X6_rests.2.2.1 m_X6_rests.2.2.2.1 ∈ hs_U := hs_t5 69 (by decide +kernel) rfl
theorem cm_X6_rests : hs_CM m_X6_rests 1 := ⟨wc_X6_rests, hs_t1 7 (by decide +kernel) rfl, by decide +kernel, by decide +kernel, by decide +kernel⟩
theorem cv_X6_rests : hs_CV m_X6_rests := ⟨hs_t5 67 (by decide +kernel) rfl, hs_t5 68 (by decide +kernel) rfl⟩
theorem wc_X6_meets : Cond.code m_X6_meets.1 m_X6_meets.2.1 m_X6_meets.2.2.1 m_X6_meets.2.2.2.1 ∈ hs_U := hs_t5 77 (by decide +kernel) rfl
theorem cm_X6_meets : hs_CM m_X6_meets 2 := ⟨wc_X6_meets, hs_t1 7 (by decide +kernel) rfl, by decide +kernel, by decide +kernel, by decide +kernel⟩
theorem cv_X6_meets : hs_CV m_X6_meets := ⟨hs_t5 75 (by decide +kernel) rfl, hs_t5 76 (by decide +kernel) rfl⟩
theorem wc_X6_harm : Cond.code m_X6_harm.1 m_X6_harm.2.1 m_X6_harm.2.2.1 m_X6_harm.2.2.2.1 ∈ hs_U := hs_t5 81 (by decide +kernel) rfl
theorem cm_X6_harm : hs_CM m_X6_harm 2 := ⟨wc_X6_harm, hs_t1 7 (by decide +kernel) rfl, by decide +kernel, by decide +kernel, by decide +kernel⟩
theorem cv_X6_harm : hs_CV m_X6_harm := ⟨hs_t5 79 (by decide +kernel) rfl, hs_t5 80 (by decide +kernel) rfl⟩
theorem wc_X6_isJudged : Cond.code m_X6_isJudged.1 m_X6_isJudged.2.1 m_X6_isJudged.2.2.1 m_X6_isJudged.2.2.2.1 ∈ hs_U := hs_t5 88 (by decide +kernel) rfl
theorem cm_X6_isJudged : hs_CM m_X6_isJudged 1 := ⟨wc_X6_isJudged, hs_t1 7 (by decide +kernel) rfl, by decide +kernel, by decide +kernel, by decide +kernel⟩
theorem wt_X6_isJudged : Cond.static m_X6_isJudged.1 ∈ hs_U := hs_t5 87 (by decide +kernel) rfl
theorem wc_X6_postsBy : Cond.code m_X6_postsBy.1 m_X6_postsBy.2.1 m_X6_postsBy.2.2.1 m_X6_postsBy.2.2.2.1 ∈ hs_U := hs_t5 93 (by decide +kernel) rfl
theorem cm_X6_postsBy : hs_CM m_X6_postsBy 1 := ⟨wc_X6_postsBy, hs_t1 7 (by decide +kernel) rfl, by decide +kernel, by decide +kernel, by decide +kernel⟩
theorem cv_X6_postsBy : hs_CV m_X6_postsBy := ⟨hs_t5 92 (by decide +kernel) rfl, hs_t0 41 (by decide +kernel) rfl⟩
theorem wc_X6_best : Cond.code m_X6_best.1 m_X6_best.2.1 m_X6_best.2.2.1 m_X6_best.2.2.2.1 ∈ hs_U := hs_t5 85 (by decide +kernel) rfl
theorem cm_X6_best : hs_CM m_X6_best 2 := ⟨wc_X6_best, hs_t1 7 (by decide +kernel) rfl, by decide +kernel, by decide +kernel, by decide +kernel⟩
theorem cv_X6_best : hs_CV m_X6_best := ⟨hs_t5 83 (by decide +kernel) rfl, hs_t5 84 (by decide +kernel) rfl⟩
theorem wc_X6_learn : Cond.code m_X6_learn.1 m_X6_learn.2.1 m_X6_learn.2.2.1 m_X6_learn.2.2.2.1 ∈ hs_U := hs_t5 97 (by decide +kernel) rfl
theorem cm_X6_learn : hs_CM m_X6_learn 2 := ⟨wc_X6_learn, hs_t1 7 (by decide +kernel) rfl, by decide +kernel, by decide +kernel, by decide +kernel⟩
theorem cv_X6_learn : hs_CV m_X6_learn := ⟨hs_t5 95 (by decide +kernel) rfl, hs_t5 96 (by decide +kernel) rfl⟩
theorem wc_X6_quiet : Cond.code m_X6_quiet.1 m_X6_quiet.2.1 m_X6_quiet.2.2.1 m_X6_quiet.2.2.2.1 ∈ hs_U := hs_t5 101 (by decide +kernel) rfl
theorem cm_X6_quiet : hs_CM m_X6_quiet 2 := ⟨wc_X6_quiet, hs_t1 7 (by decide +kernel) rfl, by decide +kernel, by decide +kernel, by decide +kernel⟩
theorem cv_X6_quiet : hs_CV m_X6_quiet := ⟨hs_t5 99 (by decide +kernel) rfl, hs_t5 100 (by decide +kernel) rfl⟩
theorem wc_X6_better : Cond.code m_X6_better.1 m_X6_better.2.1 m_X6_better.2.2.1 m_X6_better.2.2.2.1 ∈ hs_U := hs_t5 105 (by decide +kernel) rfl
theorem cm_X6_better : hs_CM m_X6_better 3 := ⟨wc_X6_better, hs_t1 7 (by decide +kernel) rfl, by decide +kernel, by decide +kernel, by decide +kernel⟩
theorem cv_X6_better : hs_CV m_X6_better := ⟨hs_t5 103 (by decide +kernel) rfl, hs_t5 104 (by decide +kernel) rfl⟩
theorem wc_X6_from : Cond.code m_X6_from.1 m_X6_from.2.1 m_X6_from.2.2.1 m_X6_from.2.2.2.1 ∈ hs_U := hs_t5 109 (by decide +kernel) rfl
theorem cm_X6_from : hs_CM m_X6_from 2 := ⟨wc_X6_from, hs_t1 7 (by decide +kernel) rfl, by decide +kernel, by decide +kernel, by decide +kernel⟩
theorem cv_X6_from : hs_CV m_X6_from := ⟨hs_t5 107 (by decide +kernel) rfl, hs_t5 108 (by decide +kernel) rfl⟩
theorem wc_X6_common : Cond.code m_X6_common.1 m_X6_common.2.1 m_X6_common.2.2.1 m_X6_common.2.2.2.1 ∈ hs_U := hs_t5 125 (by decide +kernel) rfl
theorem cm_X6_common : hs_CM m_X6_common 2 := ⟨wc_X6_common, hs_t1 7 (by decide +kernel) rfl, by decide +kernel, by decide +kernel, by decide +kernel⟩
theorem wt_X6_common : Cond.static m_X6_common.1 ∈ hs_U := hs_t5 124 (by decide +kernel) rfl
theorem wc_X6_told : Cond.code m_X6_told.1 m_X6_told.2.1 m_X6_told.2.2.1 m_X6_told.2.2.2.1 ∈ hs_U := hs_t5 122 (by decide +kernel) rfl
theorem cm_X6_told : hs_CM m_X6_told 3 := ⟨wc_X6_told, hs_t1 7 (by decide +kernel) rfl, by decide +kernel, by decide +kernel, by decide +kernel⟩
theorem wt_X6_told : Cond.static m_X6_told.1 ∈ hs_U := hs_t5 121 (by decide +kernel) rfl
theorem wc_X6_findOdds : Cond.code m_X6_findOdds.1 m_X6_findOdds.2.1 m_X6_findOdds.2.2.1 m_X6_findOdds.2.2.2.1 ∈ hs_U := hs_t5 119 (by decide +kernel) rfl
theorem cm_X6_findOdds : hs_CM m_X6_findOdds 3 := ⟨wc_X6_findOdds, hs_t1 7 (by decide +kernel) rfl, by decide +kernel, by decide +kernel, by decide +kernel⟩
theorem cv_X6_findOdds : hs_CV m_X6_findOdds := ⟨hs_t5 118 (by decide +kernel) rfl, hs_t0 42 (by decide +kernel) rfl⟩
theorem wc_X6_luck : Cond.code m_X6_luck.1 m_X6_luck.2.1 m_X6_luck.2.2.1 m_X6_luck.2.2.2.1 ∈ hs_U := hs_t5 113 (by decide +kernel) rfl
theorem cm_X6_luck : hs_CM m_X6_luck 4 := ⟨wc_X6_luck, hs_t1 7 (by decide +kernel) rfl, by decide +kernel, by decide +kernel, by decide +kernel⟩
theorem cv_X6_luck : hs_CV m_X6_luck := ⟨hs_t5 111 (by decide +kernel) rfl, hs_t5 112 (by decide +kernel) rfl⟩
theorem wc_X6_mean : Cond.code m_X6_mean.1 m_X6_mean.2.1 m_X6_mean.2.2.1 m_X6_mean.2.2.2.1 ∈ hs_U := hs_t5 129 (by decide +kernel) rfl
theorem cm_X6_mean : hs_CM m_X6_mean 3 := ⟨wc_X6_mean, hs_t1 7 (by decide +kernel) rfl, by decide +kernel, by decide +kernel, by decide +kernel⟩
theorem cv_X6_mean : hs_CV m_X6_mean := ⟨hs_t5 127 (by decide +kernel) rfl, hs_t5 128 (by decide +kernel) rfl⟩
theorem wc_X6_see : Cond.code m_X6_see.1 m_X6_see.2.1 m_X6_see.2.2.1 m_X6_see.2.2.2.1 ∈ hs_U := hs_t5 133 (by decide +kernel) rfl
theorem cm_X6_see : hs_CM m_X6_see 3 := ⟨wc_X6_see, hs_t1 7 (by decide +kernel) rfl, by decide +kernel, by decide +kernel, by decide +kernel⟩
theorem cv_X6_see : hs_CV m_X6_see := ⟨hs_t5 131 (by decide +kernel) rfl, hs_t5 132 (by decide +kernel) rfl⟩
theorem wc_X6_forget : Cond.code m_X6_forget.1 m_X6_forget.2.1 m_X6_forget.2.2.1 m_X6_forget.2.2.2.1 ∈ hs_U := hs_t5 137 (by decide +kernel) rfl
theorem cm_X6_forget : hs_CM m_X6_forget 1 := ⟨wc_X6_forget, hs_t1 7 (by decide +kernel) rfl, by decide +kernel, by decide +kernel, by decide +kernel⟩
theorem cv_X6_forget : hs_CV m_X6_forget := ⟨hs_t5 135 (by decide +kernel) rfl, hs_t5 136 (by decide +kernel) rfl⟩
theorem wc_X6_isSoWith : Cond.code m_X6_isSoWith.1 m_X6_isSoWith.2.1 m_X6_isSoWith.2.2.1 m_X6_isSoWith.2.2.2.1 ∈ hs_U := hs_t5 145 (by decide +kernel) rfl
theorem cm_X6_isSoWith : hs_CM m_X6_isSoWith 3 := ⟨wc_X6_isSoWith, hs_t1 7 (by decide +kernel) rfl, by decide +kernel, by decide +kernel, by decide +kernel⟩
theorem cv_X6_isSoWith : hs_CV m_X6_isSoWith := ⟨hs_t5 144 (by decide +kernel) rfl, hs_t0 43 (by decide +kernel) rfl⟩
theorem wc_X6_kinds : Cond.code m_X6_kinds.1 m_X6_kinds.2.1 m_X6_kinds.2.2.1 m_X6_kinds.2.2.2.1 ∈ hs_U := hs_t5 141 (by decide +kernel) rfl
theorem cm_X6_kinds : hs_CM m_X6_kinds 1 := ⟨wc_X6_kinds, hs_t1 7 (by decide +kernel) rfl, by decide +kernel, by decide +kernel, by decide +kernel⟩
theorem cv_X6_kinds : hs_CV m_X6_kinds := ⟨hs_t5 139 (by decide +kernel) rfl, hs_t5 140 (by decide +kernel) rfl⟩
theorem wc_X6_second : Cond.code m_X6_second.1 m_X6_second.2.1 m_X6_second.2.2.1 m_X6_second.2.2.2.1 ∈ hs_U := hs_t5 149 (by decide +kernel) rfl
theorem cm_X6_second : hs_CM m_X6_second 2 := ⟨wc_X6_second, hs_t1 7 (by decide +kernel) rfl, by decide +kernel, by decide +kernel, by decide +kernel⟩
theorem cv_X6_second : hs_CV m_X6_second := ⟨hs_t5 147 (by decide +kernel) rfl, hs_t5 148 (by decide +kernel) rfl⟩
theorem wc_X6_look : Cond.code m_X6_look.1 m_X6_look.2.1 m_X6_look.2.2.1 m_X6_look.2.2.2.1 ∈ hs_U := hs_t5 154 (by decide +kernel) rfl
theorem cm_X6_look : hs_CM m_X6_look 2 := ⟨wc_X6_look, hs_t1 7 (by decide +kernel) rfl, by decide +kernel, by decide +kernel, by decide +kernel⟩
theorem cv_X6_look : hs_CV m_X6_look := ⟨hs_t5 152 (by decide +kernel) rfl, hs_t5 153 (by decide +kernel) rfl⟩
theorem wc_X6_drift : Cond.code m_X6_drift.1 m_X6_drift.2.1 m_X6_drift.2.2.1 m_X6_drift.2.2.2.1 ∈ hs_U := hs_t5 158 (by decide +kernel) rfl
theorem cm_X6_drift : hs_CM m_X6_drift 3 := ⟨wc_X6_drift, hs_t1 7 (by decide +kernel) rfl, by decide +kernel, by decide +kernel, by decide +kernel⟩
theorem cv_X6_drift : hs_CV m_X6_drift := ⟨hs_t5 156 (by decide +kernel) rfl, hs_t5 157 (by decide +kernel) rfl⟩
theorem wc_X6_copies : Cond.code m_X6_copies.1 m_X6_copies.2.1 m_X6_copies.2.2.1 m_X6_copies.2.2.2.1 ∈ hs_U := hs_t5 167 (by decide +kernel) rfl
theorem cm_X6_copies : hs_CM m_X6_copies 2 := ⟨wc_X6_copies, hs_t1 7 (by decide +kernel) rfl, by decide +kernel, by decide +kernel, by decide +kernel⟩
theorem cv_X6_copies : hs_CV m_X6_copies := ⟨hs_t5 166 (by decide +kernel) rfl, hs_t0 44 (by decide +kernel) rfl⟩
theorem wc_X6_keep : Cond.code m_X6_keep.1 m_X6_keep.2.1 m_X6_keep.2.2.1 m_X6_keep.2.2.2.1 ∈ hs_U := hs_t5 163 (by decide +kernel) rfl
theorem cm_X6_keep : hs_CM m_X6_keep 1 := ⟨wc_X6_keep, hs_t1 7 (by decide +kernel) rfl, by decide +kernel, by decide +kernel, by decide +kernel⟩
theorem cv_X6_keep : hs_CV m_X6_keep := ⟨hs_t5 161 (by decide +kernel) rfl, hs_t5 162 (by decide +kernel) rfl⟩
theorem wc_X6_back : Cond.code m_X6_back.1 m_X6_back.2.1 m_X6_back.2.2.1 m_X6_back.2.2.2.1 ∈ hs_U := hs_t5 171 (by decide +kernel) rfl
theorem cm_X6_back : hs_CM m_X6_back 1 := ⟨wc_X6_back, hs_t1 7 (by decide +kernel) rfl, by decide +kernel, by decide +kernel, by decide +kernel⟩
theorem cv_X6_back : hs_CV m_X6_back := ⟨hs_t5 169 (by decide +kernel) rfl, hs_t5 170 (by decide +kernel) rfl⟩
theorem wc_X6_isSheet : Cond.code m_X6_isSheet.1 m_X6_isSheet.2.1 m_X6_isSheet.2.2.1 m_X6_isSheet.2.2.2.1 ∈ hs_U := hs_t5 178 (by decide +kernel) rfl
theorem cm_X6_isSheet : hs_CM m_X6_isSheet 2 := ⟨wc_X6_isSheet, hs_t1 7 (by decide +kernel) rfl, by decide +kernel, by decide +kernel, by decide +kernel⟩
theorem wt_X6_isSheet : Cond.static m_X6_isSheet.1 ∈ hs_U := hs_t5 177 (by decide +kernel) rfl
theorem wc_X6_sheet : Cond.code m_X6_sheet.1 m_X6_sheet.2.1 m_X6_sheet.2.2.1 m_X6_sheet.2.2.2.1 ∈ hs_U := hs_t5 175 (by decide +kernel) rfl
theorem cm_X6_sheet : hs_CM m_X6_sheet 3 := ⟨wc_X6_sheet, hs_t1 7 (by decide +kernel) rfl, by decide +kernel, by decide +kernel, by decide +kernel⟩
theorem cv_X6_sheet : hs_CV m_X6_sheet := ⟨hs_t5 173 (by decide +kernel) rfl, hs_t5 174 (by decide +kernel) rfl⟩
theorem wc_X6_lay : Cond.code m_X6_lay.1 m_X6_lay.2.1 m_X6_lay.2.2.1 m_X6_lay.2.2.2.1 ∈ hs_U := hs_t5 182 (by decide +kernel) rfl
theorem cm_X6_lay : hs_CM m_X6_lay 3 := ⟨wc_X6_lay, hs_t1 7 (by decide +kernel) rfl, by decide +kernel, by decide +kernel, by decide +kernel⟩
theorem cv_X6_lay : hs_CV m_X6_lay := ⟨hs_t5 180 (by decide +kernel) rfl, hs_t5 181 (by decide +kernel) rfl⟩
theorem wc_X6_read : Cond.code m_X6_read.1 m_X6_read.2.1 m_X6_read.2.2.1 m_X6_read.2.2.2.1 ∈ hs_U := hs_t5 186 (by decide +kernel) rfl
theorem cm_X6_read : hs_CM m_X6_read 4 := ⟨wc_X6_read, hs_t1 7 (by decide +kernel) rfl, by decide +kernel, by decide +kernel, by decide +kernel⟩
theorem cv_X6_read : hs_CV m_X6_read := ⟨hs_t5 184 (by decide +kernel) rfl, hs_t5 185 (by decide +kernel) rfl⟩
theorem wc_X6_torn : Cond.code m_X6_torn.1 m_X6_torn.2.1 m_X6_torn.2.2.1 m_X6_torn.2.2.2.1 ∈ hs_U := hs_t5 192 (by decide +kernel) rfl
theorem cm_X6_torn : hs_CM m_X6_torn 0 := ⟨wc_X6_torn, hs_t1 7 (by decide +kernel) rfl, by decide +kernel, by decide +kernel, by decide +kernel⟩
theorem cv_X6_torn : hs_CV m_X6_torn := ⟨hs_t5 190 (by decide +kernel) rfl, hs_t5 191 (by decide +kernel) rfl⟩
theorem wc_X6_count : Cond.code m_X6_count.1 m_X6_count.2.1 m_X6_count.2.2.1 m_X6_count.2.2.2.1 ∈ hs_U := hs_t5 196 (by decide +kernel) rfl
theorem cm_X6_count : hs_CM m_X6_count 1 := ⟨wc_X6_count, hs_t1 7 (by decide +kernel) rfl, by decide +kernel, by decide +kernel, by decide +kernel⟩
theorem cv_X6_count : hs_CV m_X6_count := ⟨hs_t5 194 (by decide +kernel) rfl, hs_t5 195 (by decide +kernel) rfl⟩
theorem ml_X5_58 : Cond.methodLink RX5 58 m_X5_within.1 ∈ hs_U := hs_t2 10 (by decide +kernel) rfl
theorem ml_X5_69 : Cond.methodLink RX5 69 m_X0_takeAll.1 ∈ hs_U := hs_t2 21 (by decide +kernel) rfl
theorem ml_X0_26 : Cond.methodLink RX0 26 m_X3_empty.1 ∈ hs_U := hs_t2 25 (by decide +kernel) rfl
theorem ml_X0_39 : Cond.methodLink RX0 39 m_X0_nextToken.1 ∈ hs_U := hs_t2 29 (by decide +kernel) rfl
theorem ml_X0_137 : Cond.methodLink RX0 137 m_X0_passRun.1 ∈ hs_U := hs_t2 33 (by decide +kernel) rfl
theorem ml_X0_64 : Cond.methodLink RX0 64 m_X0_refuse.1 ∈ hs_U := hs_t2 37 (by decide +kernel) rfl
theorem ml_X0_46 : Cond.methodLink RX0 46 m_X0_tellDone.1 ∈ hs_U := hs_t2 41 (by decide +kernel) rfl
theorem ml_X0_52 : Cond.methodLink RX0 52 m_X3_hasGhost.1 ∈ hs_U := hs_t2 45 (by decide +kernel) rfl
theorem mn_X3_61 : Cond.methodLinkNest RX3 61 m_X5_within.1 "HauntSums" ∈ hs_nest := by decide +kernel
theorem ml_X0_49 : Cond.methodLink RX0 49 m_X0_takeLine.1 ∈ hs_U := hs_t2 50 (by decide +kernel) rfl
theorem ml_X0_68 : Cond.methodLink RX0 68 m_X0_sortOfLine.1 ∈ hs_U := hs_t2 54 (by decide +kernel) rfl
theorem ml_X0_92 : Cond.methodLink RX0 92 m_X0_isNamed.1 ∈ hs_U := hs_t2 59 (by decide +kernel) rfl
theorem ml_X0_75 : Cond.methodLink RX0 75 m_X0_takeDone.1 ∈ hs_U := hs_t2 116 (by decide +kernel) rfl
theorem ml_X0_116 : Cond.methodLink RX0 116 m_X0_takeNumber.1 ∈ hs_U := hs_t2 120 (by decide +kernel) rfl
theorem mn_X0_133 : Cond.methodLinkNest RX0 133 m_X5_within.1 "HauntSums" ∈ hs_nest := by decide +kernel
theorem ml_X0_122 : Cond.methodLink RX0 122 m_X0_takeSemicolon.1 ∈ hs_U := hs_t2 125 (by decide +kernel) rfl
theorem ml_X0_81 : Cond.methodLink RX0 81 m_X0_takeClerk.1 ∈ hs_U := hs_t2 129 (by decide +kernel) rfl
theorem ml_X0_129 : Cond.methodLink RX0 129 m_X3_addClerk.1 ∈ hs_U := hs_t2 133 (by decide +kernel) rfl
theorem ml_X0_87 : Cond.methodLink RX0 87 m_X0_takeGhost.1 ∈ hs_U := hs_t2 137 (by decide +kernel) rfl
theorem ml_X0_125 : Cond.methodLink RX0 125 m_X3_addGhost.1 ∈ hs_U := hs_t2 141 (by decide +kernel) rfl
theorem ml_X5_85 : Cond.methodLink RX5 85 m_X3_become.1 ∈ hs_U := hs_t2 145 (by decide +kernel) rfl
theorem ml_X3_55 : Cond.methodLink RX3 55 arraycopyName ∈ hs_U := hs_t2 149 (by decide +kernel) rfl
theorem ml_X5_98 : Cond.methodLink RX5 98 m_X4_begin.1 ∈ hs_U := hs_t2 161 (by decide +kernel) rfl
theorem ml_X4_50 : Cond.methodLink RX4 50 m_X4_reckon.1 ∈ hs_U := hs_t2 165 (by decide +kernel) rfl
theorem mn_X4_63 : Cond.methodLinkNest RX4 63 m_X5_answerOf.1 "HauntSums" ∈ hs_nest := by decide +kernel
theorem ml_X5_281 : Cond.methodLink RX5 281 Lib.Math.abs.name ∈ hs_U := hs_t2 172 (by decide +kernel) rfl
theorem mn_X4_67 : Cond.methodLinkNest RX4 67 m_X5_stepsOf.1 "HauntSums" ∈ hs_nest := by decide +kernel
theorem ml_X5_286 : Cond.methodLink RX5 286 m_X5_figuresOf.1 ∈ hs_U := hs_t2 178 (by decide +kernel) rfl
theorem ml_X4_71 : Cond.methodLink RX4 71 Lib.Math.max.name ∈ hs_U := hs_t2 181 (by decide +kernel) rfl
theorem ml_X5_101 : Cond.methodLink RX5 101 m_X4_resting.1 ∈ hs_U := hs_t2 184 (by decide +kernel) rfl
theorem ml_X5_104 : Cond.methodLink RX5 104 m_X4_leftOfAll.1 ∈ hs_U := hs_t2 188 (by decide +kernel) rfl
theorem ml_X5_107 : Cond.methodLink RX5 107 m_X3_creaksOfAll.1 ∈ hs_U := hs_t2 192 (by decide +kernel) rfl
theorem ml_X3_88 : Cond.methodLink RX3 88 m_X3_creaks.1 ∈ hs_U := hs_t2 196 (by decide +kernel) rfl
theorem mn_X3_85 : Cond.methodLinkNest RX3 85 m_X5_sevensOf.1 "HauntSums" ∈ hs_nest := by decide +kernel
theorem ml_X3_69 : Cond.methodLink RX3 69 m_X3_answer.1 ∈ hs_U := hs_t2 203 (by decide +kernel) rfl
theorem mn_X3_65 : Cond.methodLinkNest RX3 65 m_X5_answerOf.1 "HauntSums" ∈ hs_nest := by decide +kernel
theorem ml_X5_110 : Cond.methodLink RX5 110 m_X3_hasGhost.1 ∈ hs_U := hs_t2 212 (by decide +kernel) rfl
theorem ml_X5_114 : Cond.methodLink RX5 114 m_X3_told.1 ∈ hs_U := hs_t2 213 (by decide +kernel) rfl
theorem ml_X5_118 : Cond.methodLink RX5 118 m_X3_answer.1 ∈ hs_U := hs_t2 217 (by decide +kernel) rfl
theorem ml_X5_122 : Cond.methodLink RX5 122 m_X3_steps.1 ∈ hs_U := hs_t2 218 (by decide +kernel) rfl
theorem mn_X3_73 : Cond.methodLinkNest RX3 73 m_X5_stepsOf.1 "HauntSums" ∈ hs_nest := by decide +kernel
theorem ml_X5_125 : Cond.methodLink RX5 125 m_X3_left.1 ∈ hs_U := hs_t2 223 (by decide +kernel) rfl
theorem ml_X3_77 : Cond.methodLink RX3 77 m_X3_steps.1 ∈ hs_U := hs_t2 227 (by decide +kernel) rfl
theorem ml_X3_80 : Cond.methodLink RX3 80 Lib.Math.max.name ∈ hs_U := hs_t2 228 (by decide +kernel) rfl
theorem ml_X5_128 : Cond.methodLink RX5 128 m_X3_creaks.1 ∈ hs_U := hs_t2 229 (by decide +kernel) rfl
theorem ml_X5_131 : Cond.methodLink RX5 131 m_X3_hasClerk.1 ∈ hs_U := hs_t2 234 (by decide +kernel) rfl
theorem ml_X5_140 : Cond.methodLink RX5 140 m_X5_mayBeTold.1 ∈ hs_U := hs_t3 2 (by decide +kernel) rfl
theorem ml_X5_148 : Cond.methodLink RX5 148 m_X5_isRoom.1 ∈ hs_U := hs_t3 5 (by decide +kernel) rfl
theorem ml_X5_144 : Cond.methodLink RX5 144 m_X3_tell.1 ∈ hs_U := hs_t3 8 (by decide +kernel) rfl
theorem ml_X5_151 : Cond.methodLink RX5 151 m_X3_addGhost.1 ∈ hs_U := hs_t3 20 (by decide +kernel) rfl
theorem ml_X5_155 : Cond.methodLink RX5 155 m_X5_harmOf.1 ∈ hs_U := hs_t3 25 (by decide +kernel) rfl
theorem ml_X5_172 : Cond.methodLink RX5 172 m_X5_walkFromNow.1 ∈ hs_U := hs_t3 29 (by decide +kernel) rfl
theorem ml_X5_165 : Cond.methodLink RX5 165 m_X4_go.1 ∈ hs_U := hs_t3 33 (by decide +kernel) rfl
theorem ml_X4_76 : Cond.methodLink RX4 76 m_X4_goOneNight.1 ∈ hs_U := hs_t3 37 (by decide +kernel) rfl
theorem ml_X4_79 : Cond.methodLink RX4 79 m_X4_work.1 ∈ hs_U := hs_t3 41 (by decide +kernel) rfl
theorem ml_X5_158 : Cond.methodLink RX5 158 m_X3_settle.1 ∈ hs_U := hs_t3 45 (by decide +kernel) rfl
theorem ml_X3_97 : Cond.methodLink RX3 97 m_X3_left.1 ∈ hs_U := hs_t3 49 (by decide +kernel) rfl
theorem ml_X5_162 : Cond.methodLink RX5 162 m_X4_tillRest.1 ∈ hs_U := hs_t3 54 (by decide +kernel) rfl
theorem ml_X4_83 : Cond.methodLink RX4 83 m_X4_resting.1 ∈ hs_U := hs_t3 58 (by decide +kernel) rfl
theorem ml_X5_181 : Cond.methodLink RX5 181 m_X4_goOneNight.1 ∈ hs_U := hs_t3 71 (by decide +kernel) rfl
theorem ml_X5_187 : Cond.methodLink RX5 187 m_X5_power.1 ∈ hs_U := hs_t3 80 (by decide +kernel) rfl
theorem ml_X5_190 : Cond.methodLink RX5 190 m_X5_harmByPlan.1 ∈ hs_U := hs_t3 83 (by decide +kernel) rfl
theorem ml_X5_193 : Cond.methodLink RX5 193 m_X5_deskByPlan.1 ∈ hs_U := hs_t3 87 (by decide +kernel) rfl
theorem ml_X5_197 : Cond.methodLink RX5 197 m_X5_harmWith.1 ∈ hs_U := hs_t3 103 (by decide +kernel) rfl
theorem ml_X5_295 : Cond.methodLink RX5 295 m_X4_reckon.1 ∈ hs_U := hs_t3 107 (by decide +kernel) rfl
theorem ml_X5_203 : Cond.methodLink RX5 203 m_X5_goWithout.1 ∈ hs_U := hs_t3 117 (by decide +kernel) rfl
theorem ml_X5_207 : Cond.methodLink RX5 207 m_X5_weight.1 ∈ hs_U := hs_t3 121 (by decide +kernel) rfl
theorem ml_X5_210 : Cond.methodLink RX5 210 m_X5_lowestTerm.1 ∈ hs_U := hs_t3 125 (by decide +kernel) rfl
theorem ml_X5_277 : Cond.methodLink RX5 277 m_X5_commonDivisor.1 ∈ hs_U := hs_t3 128 (by decide +kernel) rfl
theorem ml_X5_229 : Cond.methodLink RX5 229 m_X5_isAsSeen.1 ∈ hs_U := hs_t3 147 (by decide +kernel) rfl
theorem ml_X5_299 : Cond.methodLink RX5 299 m_X3_lastSeenBehind.1 ∈ hs_U := hs_t3 151 (by decide +kernel) rfl
theorem ml_X5_302 : Cond.methodLink RX5 302 m_X3_agrees.1 ∈ hs_U := hs_t3 155 (by decide +kernel) rfl
theorem ml_X5_235 : Cond.methodLink RX5 235 m_X5_tallyRooms.1 ∈ hs_U := hs_t3 167 (by decide +kernel) rfl
theorem ml_X5_306 : Cond.methodLink RX5 306 m_X5_tallyTrail.1 ∈ hs_U := hs_t3 171 (by decide +kernel) rfl
theorem ml_X5_238 : Cond.methodLink RX5 238 m_X5_worstBehind.1 ∈ hs_U := hs_t3 175 (by decide +kernel) rfl
theorem ml_X5_309 : Cond.methodLink RX5 309 Lib.Math.max.name ∈ hs_U := hs_t3 179 (by decide +kernel) rfl
theorem ml_X5_242 : Cond.methodLink RX5 242 m_X1_isOne.1 ∈ hs_U := hs_t3 197 (by decide +kernel) rfl
theorem mn_X1_21 : Cond.methodLinkNest RX1 21 m_X5_within.1 "HauntSums" ∈ hs_nest := by decide +kernel
theorem ml_X5_245 : Cond.methodLink RX5 245 m_X1_isLane.1 ∈ hs_U := hs_t3 202 (by decide +kernel) rfl
theorem ml_X5_248 : Cond.methodLink RX5 248 m_X1_renew.1 ∈ hs_U := hs_t3 206 (by decide +kernel) rfl
theorem ml_X5_254 : Cond.methodLink RX5 254 m_X1_faultOf.1 ∈ hs_U := hs_t3 214 (by decide +kernel) rfl
theorem ml_X1_25 : Cond.methodLink RX1 25 m_X1_isNothing.1 ∈ hs_U := hs_t3 218 (by decide +kernel) rfl
theorem ml_X5_257 : Cond.methodLink RX5 257 m_X1_put.1 ∈ hs_U := hs_t3 222 (by decide +kernel) rfl
theorem ml_X5_260 : Cond.methodLink RX5 260 m_X1_faultOfPair.1 ∈ hs_U := hs_t3 230 (by decide +kernel) rfl
theorem ml_X1_29 : Cond.methodLink RX1 29 m_X1_faultOf.1 ∈ hs_U := hs_t3 234 (by decide +kernel) rfl
theorem ml_X5_263 : Cond.methodLink RX5 263 m_X1_cell.1 ∈ hs_U := hs_t3 235 (by decide +kernel) rfl
theorem ml_X5_269 : Cond.methodLink RX5 269 m_X1_isNothing.1 ∈ hs_U := hs_t4 7 (by decide +kernel) rfl
theorem ml_X5_274 : Cond.methodLink RX5 274 m_X3_skillOfAll.1 ∈ hs_U := hs_t4 8 (by decide +kernel) rfl
theorem ml_X6_50 : Cond.methodLink RX6 50 m_X6_firstDraft.1 ∈ hs_U := hs_t4 18 (by decide +kernel) rfl
theorem ml_X6_53 : Cond.methodLink RX6 53 m_X6_keepDraft.1 ∈ hs_U := hs_t4 22 (by decide +kernel) rfl
theorem ml_X6_71 : Cond.methodLink RX6 71 m_X6_in.1 ∈ hs_U := hs_t4 119 (by decide +kernel) rfl
theorem ml_X6_120 : Cond.methodLink RX6 120 m_X6_takes.1 ∈ hs_U := hs_t4 130 (by decide +kernel) rfl
theorem ml_X6_90 : Cond.methodLink RX6 90 m_X6_byteAt.1 ∈ hs_U := hs_t4 134 (by decide +kernel) rfl
theorem ml_X6_112 : Cond.methodLink RX6 112 m_X6_needs.1 ∈ hs_U := hs_t4 142 (by decide +kernel) rfl
theorem ml_X6_137 : Cond.methodLink RX6 137 m_X6_readLine.1 ∈ hs_U := hs_t4 146 (by decide +kernel) rfl
theorem ml_X6_129 : Cond.methodLink RX6 129 m_X6_lineNow.1 ∈ hs_U := hs_t4 150 (by decide +kernel) rfl
theorem ml_X6_94 : Cond.methodLink RX6 94 m_X6_is.1 ∈ hs_U := hs_t4 154 (by decide +kernel) rfl
theorem ml_X6_133 : Cond.methodLink RX6 133 m_X6_readLineOf.1 ∈ hs_U := hs_t4 158 (by decide +kernel) rfl
theorem ml_X6_126 : Cond.methodLink RX6 126 m_X6_readDone.1 ∈ hs_U := hs_t4 162 (by decide +kernel) rfl
theorem ml_X6_116 : Cond.methodLink RX6 116 m_X6_looked.1 ∈ hs_U := hs_t4 166 (by decide +kernel) rfl
theorem ml_X6_123 : Cond.methodLink RX6 123 m_X6_readNumber.1 ∈ hs_U := hs_t4 170 (by decide +kernel) rfl
theorem ml_X6_178 : Cond.methodLink RX6 178 m_X6_starts.1 ∈ hs_U := hs_t4 182 (by decide +kernel) rfl
theorem ml_X6_181 : Cond.methodLink RX6 181 m_X6_creaks.1 ∈ hs_U := hs_t4 186 (by decide +kernel) rfl
theorem ml_X6_143 : Cond.methodLink RX6 143 m_X6_of.1 ∈ hs_U := hs_t4 190 (by decide +kernel) rfl
theorem ml_X6_156 : Cond.methodLink RX6 156 m_X6_sevens.1 ∈ hs_U := hs_t4 194 (by decide +kernel) rfl
theorem ml_X6_152 : Cond.methodLink RX6 152 m_X6_flag.1 ∈ hs_U := hs_t4 197 (by decide +kernel) rfl
theorem ml_X6_146 : Cond.methodLink RX6 146 m_X6_answer.1 ∈ hs_U := hs_t4 200 (by decide +kernel) rfl
theorem ml_X6_184 : Cond.methodLink RX6 184 m_X6_resting.1 ∈ hs_U := hs_t4 204 (by decide +kernel) rfl
theorem ml_X6_159 : Cond.methodLink RX6 159 m_X6_left.1 ∈ hs_U := hs_t4 208 (by decide +kernel) rfl
theorem ml_X6_149 : Cond.methodLink RX6 149 m_X6_steps.1 ∈ hs_U := hs_t4 212 (by decide +kernel) rfl
theorem ml_X6_187 : Cond.methodLink RX6 187 m_X6_allLeft.1 ∈ hs_U := hs_t4 216 (by decide +kernel) rfl
theorem ml_X6_190 : Cond.methodLink RX6 190 m_X6_isGhost.1 ∈ hs_U := hs_t4 224 (by decide +kernel) rfl
theorem ml_X6_194 : Cond.methodLink RX6 194 m_X6_isClerk.1 ∈ hs_U := hs_t4 232 (by decide +kernel) rfl
theorem ml_X6_197 : Cond.methodLink RX6 197 m_X6_isPart.1 ∈ hs_U := hs_t4 236 (by decide +kernel) rfl
theorem ml_X6_208 : Cond.methodLink RX6 208 m_X6_canBe.1 ∈ hs_U := hs_t5 3 (by decide +kernel) rfl
theorem ml_X6_212 : Cond.methodLink RX6 212 m_X6_becomes.1 ∈ hs_U := hs_t5 10 (by decide +kernel) rfl
theorem ml_X6_217 : Cond.methodLink RX6 217 m_X6_harmOf.1 ∈ hs_U := hs_t5 27 (by decide +kernel) rfl
theorem ml_X6_172 : Cond.methodLink RX6 172 m_X6_nightGoes.1 ∈ hs_U := hs_t5 31 (by decide +kernel) rfl
theorem ml_X6_162 : Cond.methodLink RX6 162 m_X6_firstIn.1 ∈ hs_U := hs_t5 35 (by decide +kernel) rfl
theorem ml_X6_165 : Cond.methodLink RX6 165 m_X6_lesser.1 ∈ hs_U := hs_t5 39 (by decide +kernel) rfl
theorem ml_X6_168 : Cond.methodLink RX6 168 m_X6_becomesOf.1 ∈ hs_U := hs_t5 42 (by decide +kernel) rfl
theorem ml_X6_175 : Cond.methodLink RX6 175 m_X6_allHarm.1 ∈ hs_U := hs_t5 46 (by decide +kernel) rfl
theorem ml_X6_220 : Cond.methodLink RX6 220 m_X6_settles.1 ∈ hs_U := hs_t5 50 (by decide +kernel) rfl
theorem ml_X6_225 : Cond.methodLink RX6 225 m_X6_isFar.1 ∈ hs_U := hs_t5 58 (by decide +kernel) rfl
theorem ml_X6_228 : Cond.methodLink RX6 228 m_X6_nightsTo.1 ∈ hs_U := hs_t5 70 (by decide +kernel) rfl
theorem ml_X6_231 : Cond.methodLink RX6 231 m_X6_isJudged.1 ∈ hs_U := hs_t5 86 (by decide +kernel) rfl
theorem ml_X6_235 : Cond.methodLink RX6 235 m_X6_postsBy.1 ∈ hs_U := hs_t5 90 (by decide +kernel) rfl
theorem ml_X6_256 : Cond.methodLink RX6 256 m_X6_findOdds.1 ∈ hs_U := hs_t5 116 (by decide +kernel) rfl
theorem ml_X6_259 : Cond.methodLink RX6 259 m_X6_told.1 ∈ hs_U := hs_t5 120 (by decide +kernel) rfl
theorem ml_X6_238 : Cond.methodLink RX6 238 m_X6_common.1 ∈ hs_U := hs_t5 123 (by decide +kernel) rfl
theorem ml_X6_263 : Cond.methodLink RX6 263 m_X6_isSoWith.1 ∈ hs_U := hs_t5 142 (by decide +kernel) rfl
theorem ml_X6_270 : Cond.methodLink RX6 270 m_X6_copies.1 ∈ hs_U := hs_t5 164 (by decide +kernel) rfl
theorem ml_X6_274 : Cond.methodLink RX6 274 m_X6_isSheet.1 ∈ hs_U := hs_t5 176 (by decide +kernel) rfl
theorem ml_X6_277 : Cond.methodLink RX6 277 m_X6_post.1 ∈ hs_U := hs_t5 187 (by decide +kernel) rfl
theorem ml_X6_281 : Cond.methodLink RX6 281 m_X6_nights.1 ∈ hs_U := hs_t5 188 (by decide +kernel) rfl
theorem w_st_max : Cond.static Lib.Math.max.name ∈ hs_U := hs_t2 182 (by decide +kernel) rfl
theorem w_cd_max : Cond.code Lib.Math.max.name Lib.Math.max.code 2 (some .int) ∈ hs_U := hs_t2 183 (by decide +kernel) rfl
theorem w_st_abs : Cond.static Lib.Math.abs.name ∈ hs_U := hs_t2 173 (by decide +kernel) rfl
theorem w_cd_abs : Cond.code Lib.Math.abs.name Lib.Math.abs.code 1 (some .int) ∈ hs_U := hs_t2 174 (by decide +kernel) rfl
theorem w_in_math : Cond.initialized "java/lang/Math" ∈ hs_U := hs_t1 13 (by decide +kernel) rfl
theorem w_nat : Cond.native arraycopyName ∈ hs_U := hs_t2 151 (by decide +kernel) rfl
theorem w_st_copy : Cond.static arraycopyName ∈ hs_U := hs_t2 150 (by decide +kernel) rfl
theorem w_in_sys : Cond.initialized "java/lang/System" ∈ hs_U := hs_t1 12 (by decide +kernel) rfl
theorem wk_X5_201 : Cond.constantLong RX5 201 (-1) ∈ hs_U := hs_t3 116 (by decide +kernel) rfl
theorem wk_X5_241 : Cond.constant RX5 241 (1103515245) ∈ hs_U := hs_t3 184 (by decide +kernel) rfl
theorem wk_X6_69 : Cond.constantLong RX6 69 (127) ∈ hs_U := hs_t4 118 (by decide +kernel) rfl
theorem wk_X6_101 : Cond.constantLong RX6 101 (97) ∈ hs_U := hs_t4 138 (by decide +kernel) rfl
theorem wk_X6_103 : Cond.constantLong RX6 103 (122) ∈ hs_U := hs_t4 139 (by decide +kernel) rfl
theorem wk_X6_105 : Cond.constantLong RX6 105 (48) ∈ hs_U := hs_t4 140 (by decide +kernel) rfl
theorem wk_X6_107 : Cond.constantLong RX6 107 (57) ∈ hs_U := hs_t4 141 (by decide +kernel) rfl
theorem wk_X6_200 : Cond.constantLong RX6 200 (3) ∈ hs_U := hs_t5 6 (by decide +kernel) rfl
theorem wk_X6_202 : Cond.constantLong RX6 202 (99) ∈ hs_U := hs_t5 7 (by decide +kernel) rfl
theorem wk_X6_204 : Cond.constantLong RX6 204 (5) ∈ hs_U := hs_t5 8 (by decide +kernel) rfl
theorem wk_X6_206 : Cond.constantLong RX6 206 (20) ∈ hs_U := hs_t5 9 (by decide +kernel) rfl
theorem wk_X6_215 : Cond.constantLong RX6 215 (30) ∈ hs_U := hs_t5 26 (by decide +kernel) rfl
theorem wk_X6_223 : Cond.constantLong RX6 223 (60) ∈ hs_U := hs_t5 61 (by decide +kernel) rfl
theorem wk_X6_234 : Cond.constant RX6 234 (1000000) ∈ hs_U := hs_t5 89 (by decide +kernel) rfl
theorem wk_X6_252 : Cond.constantLong RX6 252 (10) ∈ hs_U := hs_t5 114 (by decide +kernel) rfl
theorem wk_X6_254 : Cond.constantLong RX6 254 (-1) ∈ hs_U := hs_t5 115 (by decide +kernel) rfl
theorem wk_X6_267 : Cond.constantLong RX6 267 (2) ∈ hs_U := hs_t5 150 (by decide +kernel) rfl
theorem wk_X6_269 : Cond.constant RX6 269 (1103515245) ∈ hs_U := hs_t5 159 (by decide +kernel) rfl
end
section
def tab_X0_takeAll : List (Nat × Instr × Nat) := [(0, .aload_n 0, 1), (1, .getfield 12, 3), (4, .invokevirtual 26, 3), (7, .aload_n 0, 1), (8, .iconst 0, 1), (9, .putfield 29, 3), (12, .aload_n 0, 1), (13, .iconst 0, 1), (14, .putfield 33, 3), (17, .aload_n 0, 1), (18, .iconst 0, 1), (19, .putfield 36, 3), (22, .iconst 0, 1), (23, .istore_n 1, 1), (24, .iload_n 1, 1), (25, .iconst 4, 1), (26, .if_icmp .ge 16, 3), (29, .aload_n 0, 1), (30, .getfield 18, 3), (33, .iload_n 1, 1), (34, .iconst (-1), 1), (35, .iastore, 1), (36, .iinc 1 1, 3), (39, .goto (-15), 3), (42, .iconst 0, 1), (43, .istore_n 1, 1), (44, .iload_n 1, 1), (45, .sipush 160, 3), (48, .if_icmp .gt 40, 3), (51, .aload_n 0, 1), (52, .invokevirtual 39, 3), (55, .ifCond .ne 5, 3), (58, .iload_n 1, 1), (59, .ireturn, 1), (60, .aload_n 0, 1), (61, .getfield 43, 3), (64, .ifCond .ne 9, 3), (67, .aload_n 0, 1), (68, .invokevirtual 46, 3), (71, .iload_n 1, 1), (72, .ireturn, 1), (73, .aload_n 0, 1), (74, .invokevirtual 49, 3), (77, .ifCond .ne 5, 3), (80, .iload_n 1, 1), (81, .ireturn, 1), (82, .iinc 1 1, 3), (85, .goto (-41), 3), (88, .iconst 0, 1), (89, .ireturn, 1)]
theorem tb_X0_takeAll : ∀ q ∈ tab_X0_takeAll, decode m_X0_takeAll.2.1 q.1 = .ok q.2 := by decide +kernel
def tab_X0_tellDone : List (Nat × Instr × Nat) := [(0, .iconst 0, 1), (1, .istore_n 1, 1), (2, .iload_n 1, 1), (3, .iconst 4, 1), (4, .if_icmp .ge 69, 3), (7, .aload_n 0, 1), (8, .getfield 33, 3), (11, .ifCond .ne 62, 3), (14, .aload_n 0, 1), (15, .getfield 18, 3), (18, .iload_n 1, 1), (19, .iaload, 1), (20, .iconst (-1), 1), (21, .if_icmp .eq 46, 3), (24, .aload_n 0, 1), (25, .getfield 12, 3), (28, .iload_n 1, 1), (29, .invokevirtual 52, 3), (32, .ifCond .eq 21, 3), (35, .aload_n 0, 1), (36, .getfield 12, 3), (39, .getfield 56, 3), (42, .iload_n 1, 1), (43, .aload_n 0, 1), (44, .getfield 18, 3), (47, .iload_n 1, 1), (48, .iaload, 1), (49, .iastore, 1), (50, .goto 17, 3), (53, .aload_n 0, 1), (54, .bipush 6, 2), (56, .aload_n 0, 1), (57, .getfield 22, 3), (60, .getfield 59, 3), (63, .invokevirtual 64, 3), (66, .pop, 1), (67, .iinc 1 1, 3), (70, .goto (-68), 3), (73, .return_, 1)]
theorem tb_X0_tellDone : ∀ q ∈ tab_X0_tellDone, decode m_X0_tellDone.2.1 q.1 = .ok q.2 := by decide +kernel
def tab_X0_takeLine : List (Nat × Instr × Nat) := [(0, .aload_n 0, 1), (1, .getfield 43, 3), (4, .iconst 1, 1), (5, .if_icmp .ne 10, 3), (8, .aload_n 0, 1), (9, .invokevirtual 68, 3), (12, .goto 5, 3), (15, .bipush (-4), 2), (17, .istore_n 1, 1), (18, .iload_n 1, 1), (19, .bipush (-4), 2), (21, .if_icmp .ne 13, 3), (24, .aload_n 0, 1), (25, .iconst 2, 1), (26, .aload_n 0, 1), (27, .getfield 72, 3), (30, .invokevirtual 64, 3), (33, .ireturn, 1), (34, .iload_n 1, 1), (35, .iconst 4, 1), (36, .if_icmp .ne 8, 3), (39, .aload_n 0, 1), (40, .invokevirtual 75, 3), (43, .ireturn, 1), (44, .iload_n 1, 1), (45, .iconst 5, 1), (46, .if_icmp .ne 31, 3), (49, .aload_n 0, 1), (50, .getfield 12, 3), (53, .getfield 78, 3), (56, .iconst 3, 1), (57, .if_icmp .ge 10, 3), (60, .aload_n 0, 1), (61, .invokevirtual 81, 3), (64, .goto 12, 3), (67, .aload_n 0, 1), (68, .iconst 5, 1), (69, .aload_n 0, 1), (70, .getfield 72, 3), (73, .invokevirtual 64, 3), (76, .ireturn, 1), (77, .aload_n 0, 1), (78, .getfield 12, 3), (81, .getfield 84, 3), (84, .iconst 4, 1), (85, .if_icmp .ge 11, 3), (88, .aload_n 0, 1), (89, .iload_n 1, 1), (90, .invokevirtual 87, 3), (93, .goto 12, 3), (96, .aload_n 0, 1), (97, .iconst 5, 1), (98, .aload_n 0, 1), (99, .getfield 72, 3), (102, .invokevirtual 64, 3), (105, .ireturn, 1)]
theorem tb_X0_takeLine : ∀ q ∈ tab_X0_takeLine, decode m_X0_takeLine.2.1 q.1 = .ok q.2 := by decide +kernel
def tab_X0_sortOfLine : List (Nat × Instr × Nat) := [(0, .aload_n 0, 1), (1, .ldc 90, 2), (3, .invokevirtual 92, 3), (6, .ifCond .eq 5, 3), (9, .iconst 0, 1), (10, .ireturn, 1), (11, .aload_n 0, 1), (12, .ldc 96, 2), (14, .invokevirtual 92, 3), (17, .ifCond .eq 5, 3), (20, .iconst 1, 1), (21, .ireturn, 1), (22, .aload_n 0, 1), (23, .ldc 98, 2), (25, .invokevirtual 92, 3), (28, .ifCond .eq 5, 3), (31, .iconst 2, 1), (32, .ireturn, 1), (33, .aload_n 0, 1), (34, .ldc 100, 2), (36, .invokevirtual 92, 3), (39, .ifCond .eq 5, 3), (42, .iconst 3, 1), (43, .ireturn, 1), (44, .aload_n 0, 1), (45, .ldc 102, 2), (47, .invokevirtual 92, 3), (50, .ifCond .eq 5, 3), (53, .iconst 4, 1), (54, .ireturn, 1), (55, .aload_n 0, 1), (56, .ldc 103, 2), (58, .invokevirtual 92, 3), (61, .ifCond .eq 7, 3), (64, .iconst 5, 1), (65, .goto 5, 3), (68, .bipush (-4), 2), (70, .ireturn, 1)]
theorem tb_X0_sortOfLine : ∀ q ∈ tab_X0_sortOfLine, decode m_X0_sortOfLine.2.1 q.1 = .ok q.2 := by decide +kernel
def tab_X0_isNamed : List (Nat × Instr × Nat) := [(0, .aload_n 0, 1), (1, .getfield 29, 3), (4, .aload_n 0, 1), (5, .getfield 72, 3), (8, .isub, 1), (9, .aload_n 1, 1), (10, .invokevirtual 105, 3), (13, .if_icmp .eq 5, 3), (16, .iconst 0, 1), (17, .ireturn, 1), (18, .iconst 0, 1), (19, .istore_n 2, 1), (20, .iload_n 2, 1), (21, .aload_n 1, 1), (22, .invokevirtual 105, 3), (25, .if_icmp .ge 33, 3), (28, .aload_n 0, 1), (29, .getfield 22, 3), (32, .getfield 109, 3), (35, .aload_n 0, 1), (36, .getfield 72, 3), (39, .iload_n 2, 1), (40, .iadd, 1), (41, .iaload, 1), (42, .aload_n 1, 1), (43, .iload_n 2, 1), (44, .invokevirtual 112, 3), (47, .if_icmp .eq 5, 3), (50, .iconst 0, 1), (51, .ireturn, 1), (52, .iinc 2 1, 3), (55, .goto (-35), 3), (58, .iconst 1, 1), (59, .ireturn, 1)]
theorem tb_X0_isNamed : ∀ q ∈ tab_X0_isNamed, decode m_X0_isNamed.2.1 q.1 = .ok q.2 := by decide +kernel
def tab_X0_takeGhost : List (Nat × Instr × Nat) := [(0, .aload_n 0, 1), (1, .iconst 1, 1), (2, .bipush 99, 2), (4, .invokevirtual 116, 3), (7, .ifCond .ne 5, 3), (10, .iconst 0, 1), (11, .ireturn, 1), (12, .aload_n 0, 1), (13, .getfield 119, 3), (16, .istore_n 2, 1), (17, .aload_n 0, 1), (18, .iconst 1, 1), (19, .bipush 99, 2), (21, .invokevirtual 116, 3), (24, .ifCond .ne 5, 3), (27, .iconst 0, 1), (28, .ireturn, 1), (29, .aload_n 0, 1), (30, .getfield 119, 3), (33, .istore_n 3, 1), (34, .aload_n 0, 1), (35, .iconst 0, 1), (36, .iconst 5, 1), (37, .invokevirtual 116, 3), (40, .ifCond .eq 10, 3), (43, .aload_n 0, 1), (44, .invokevirtual 122, 3), (47, .ifCond .ne 5, 3), (50, .iconst 0, 1), (51, .ireturn, 1), (52, .aload_n 0, 1), (53, .getfield 12, 3), (56, .iload_n 1, 1), (57, .iload_n 2, 1), (58, .iload_n 3, 1), (59, .aload_n 0, 1), (60, .getfield 119, 3), (63, .invokevirtual 125, 3), (66, .iconst 1, 1), (67, .ireturn, 1)]
theorem tb_X0_takeGhost : ∀ q ∈ tab_X0_takeGhost, decode m_X0_takeGhost.2.1 q.1 = .ok q.2 := by decide +kernel
def tab_X0_takeDone : List (Nat × Instr × Nat) := [(0, .aload_n 0, 1), (1, .iconst 0, 1), (2, .iconst 3, 1), (3, .invokevirtual 116, 3), (6, .ifCond .ne 5, 3), (9, .iconst 0, 1), (10, .ireturn, 1), (11, .aload_n 0, 1), (12, .getfield 119, 3), (15, .istore_n 1, 1), (16, .aload_n 0, 1), (17, .getfield 18, 3), (20, .iload_n 1, 1), (21, .iaload, 1), (22, .iconst (-1), 1), (23, .if_icmp .eq 13, 3), (26, .aload_n 0, 1), (27, .iconst 4, 1), (28, .aload_n 0, 1), (29, .getfield 72, 3), (32, .invokevirtual 64, 3), (35, .ireturn, 1), (36, .aload_n 0, 1), (37, .iconst 0, 1), (38, .bipush 20, 2), (40, .invokevirtual 116, 3), (43, .ifCond .eq 10, 3), (46, .aload_n 0, 1), (47, .invokevirtual 122, 3), (50, .ifCond .ne 5, 3), (53, .iconst 0, 1), (54, .ireturn, 1), (55, .aload_n 0, 1), (56, .getfield 18, 3), (59, .iload_n 1, 1), (60, .aload_n 0, 1), (61, .getfield 119, 3), (64, .iastore, 1), (65, .iconst 1, 1), (66, .ireturn, 1)]
theorem tb_X0_takeDone : ∀ q ∈ tab_X0_takeDone, decode m_X0_takeDone.2.1 q.1 = .ok q.2 := by decide +kernel
def tab_X0_takeClerk : List (Nat × Instr × Nat) := [(0, .aload_n 0, 1), (1, .iconst 0, 1), (2, .iconst 5, 1), (3, .invokevirtual 116, 3), (6, .ifCond .ne 5, 3), (9, .iconst 0, 1), (10, .ireturn, 1), (11, .aload_n 0, 1), (12, .getfield 119, 3), (15, .istore_n 1, 1), (16, .aload_n 0, 1), (17, .iconst 1, 1), (18, .iconst 3, 1), (19, .invokevirtual 116, 3), (22, .ifCond .eq 10, 3), (25, .aload_n 0, 1), (26, .invokevirtual 122, 3), (29, .ifCond .ne 5, 3), (32, .iconst 0, 1), (33, .ireturn, 1), (34, .aload_n 0, 1), (35, .getfield 12, 3), (38, .iload_n 1, 1), (39, .aload_n 0, 1), (40, .getfield 119, 3), (43, .invokevirtual 129, 3), (46, .iconst 1, 1), (47, .ireturn, 1)]
theorem tb_X0_takeClerk : ∀ q ∈ tab_X0_takeClerk, decode m_X0_takeClerk.2.1 q.1 = .ok q.2 := by decide +kernel
def tab_X0_takeNumber : List (Nat × Instr × Nat) := [(0, .aload_n 0, 1), (1, .invokevirtual 39, 3), (4, .ifCond .ne 5, 3), (7, .iconst 0, 1), (8, .ireturn, 1), (9, .aload_n 0, 1), (10, .getfield 43, 3), (13, .iconst 2, 1), (14, .if_icmp .eq 13, 3), (17, .aload_n 0, 1), (18, .iconst 2, 1), (19, .aload_n 0, 1), (20, .getfield 72, 3), (23, .invokevirtual 64, 3), (26, .ireturn, 1), (27, .aload_n 0, 1), (28, .getfield 119, 3), (31, .iload_n 1, 1), (32, .iload_n 2, 1), (33, .invokestatic 133, 3), (36, .ifCond .ne 15, 3), (39, .aload_n 0, 1), (40, .iconst 3, 1), (41, .aload_n 0, 1), (42, .getfield 72, 3), (45, .invokevirtual 64, 3), (48, .ifCond .eq 7, 3), (51, .iconst 1, 1), (52, .goto 4, 3), (55, .iconst 0, 1), (56, .ireturn, 1)]
theorem tb_X0_takeNumber : ∀ q ∈ tab_X0_takeNumber, decode m_X0_takeNumber.2.1 q.1 = .ok q.2 := by decide +kernel
def tab_X0_takeSemicolon : List (Nat × Instr × Nat) := [(0, .aload_n 0, 1), (1, .invokevirtual 39, 3), (4, .ifCond .ne 5, 3), (7, .iconst 0, 1), (8, .ireturn, 1), (9, .aload_n 0, 1), (10, .getfield 43, 3), (13, .iconst 3, 1), (14, .if_icmp .eq 15, 3), (17, .aload_n 0, 1), (18, .iconst 2, 1), (19, .aload_n 0, 1), (20, .getfield 72, 3), (23, .invokevirtual 64, 3), (26, .ifCond .eq 7, 3), (29, .iconst 1, 1), (30, .goto 4, 3), (33, .iconst 0, 1), (34, .ireturn, 1)]
theorem tb_X0_takeSemicolon : ∀ q ∈ tab_X0_takeSemicolon, decode m_X0_takeSemicolon.2.1 q.1 = .ok q.2 := by decide +kernel
def tab_X0_nextToken : List (Nat × Instr × Nat) := [(0, .aload_n 0, 1), (1, .bipush 32, 2), (3, .bipush 32, 2), (5, .invokevirtual 137, 3), (8, .aload_n 0, 1), (9, .aload_n 0, 1), (10, .getfield 29, 3), (13, .putfield 72, 3), (16, .aload_n 0, 1), (17, .getfield 29, 3), (20, .aload_n 0, 1), (21, .getfield 22, 3), (24, .getfield 59, 3), (27, .if_icmp .lt 10, 3), (30, .aload_n 0, 1), (31, .iconst 0, 1), (32, .putfield 43, 3), (35, .iconst 1, 1), (36, .ireturn, 1), (37, .aload_n 0, 1), (38, .getfield 22, 3), (41, .getfield 109, 3), (44, .aload_n 0, 1), (45, .getfield 29, 3), (48, .iaload, 1), (49, .istore_n 1, 1), (50, .iload_n 1, 1), (51, .bipush 59, 2), (53, .if_icmp .ne 20, 3), (56, .aload_n 0, 1), (57, .dup, 1), (58, .getfield 29, 3), (61, .iconst 1, 1), (62, .iadd, 1), (63, .putfield 29, 3), (66, .aload_n 0, 1), (67, .iconst 3, 1), (68, .putfield 43, 3), (71, .iconst 1, 1), (72, .ireturn, 1), (73, .iload_n 1, 1), (74, .bipush 97, 2), (76, .if_icmp .lt 24, 3), (79, .iload_n 1, 1), (80, .bipush 122, 2), (82, .if_icmp .gt 18, 3), (85, .aload_n 0, 1), (86, .bipush 97, 2), (88, .bipush 122, 2), (90, .invokevirtual 137, 3), (93, .aload_n 0, 1), (94, .iconst 1, 1), (95, .putfield 43, 3), (98, .iconst 1, 1), (99, .ireturn, 1), (100, .aload_n 0, 1), (101, .bipush 48, 2), (103, .bipush 57, 2), (105, .invokevirtual 137, 3), (108, .aload_n 0, 1), (109, .iconst 2, 1), (110, .putfield 43, 3), (113, .aload_n 0, 1), (114, .getfield 29, 3), (117, .aload_n 0, 1), (118, .getfield 72, 3), (121, .isub, 1), (122, .istore_n 2, 1), (123, .iload_n 2, 1), (124, .iconst 1, 1), (125, .if_icmp .lt 8, 3), (128, .iload_n 2, 1), (129, .iconst 2, 1), (130, .if_icmp .le 13, 3), (133, .aload_n 0, 1), (134, .iconst 1, 1), (135, .aload_n 0, 1), (136, .getfield 72, 3), (139, .invokevirtual 64, 3), (142, .ireturn, 1), (143, .aload_n 0, 1), (144, .iload_n 1, 1), (145, .bipush 48, 2), (147, .isub, 1), (148, .putfield 119, 3), (151, .iload_n 2, 1), (152, .iconst 2, 1), (153, .if_icmp .ne 32, 3), (156, .aload_n 0, 1), (157, .aload_n 0, 1), (158, .getfield 119, 3), (161, .bipush 10, 2), (163, .imul, 1), (164, .aload_n 0, 1), (165, .getfield 22, 3), (168, .getfield 109, 3), (171, .aload_n 0, 1), (172, .getfield 72, 3), (175, .iconst 1, 1), (176, .iadd, 1), (177, .iaload, 1), (178, .iadd, 1), (179, .bipush 48, 2), (181, .isub, 1), (182, .putfield 119, 3), (185, .iconst 1, 1), (186, .ireturn, 1)]
theorem tb_X0_nextToken : ∀ q ∈ tab_X0_nextToken, decode m_X0_nextToken.2.1 q.1 = .ok q.2 := by decide +kernel
def tab_X0_passRun : List (Nat × Instr × Nat) := [(0, .aload_n 0, 1), (1, .getfield 29, 3), (4, .aload_n 0, 1), (5, .getfield 22, 3), (8, .getfield 59, 3), (11, .if_icmp .ge 48, 3), (14, .aload_n 0, 1), (15, .getfield 22, 3), (18, .getfield 109, 3), (21, .aload_n 0, 1), (22, .getfield 29, 3), (25, .iaload, 1), (26, .iload_n 1, 1), (27, .if_icmp .lt 32, 3), (30, .aload_n 0, 1), (31, .getfield 22, 3), (34, .getfield 109, 3), (37, .aload_n 0, 1), (38, .getfield 29, 3), (41, .iaload, 1), (42, .iload_n 2, 1), (43, .if_icmp .gt 16, 3), (46, .aload_n 0, 1), (47, .dup, 1), (48, .getfield 29, 3), (51, .iconst 1, 1), (52, .iadd, 1), (53, .putfield 29, 3), (56, .goto (-56), 3), (59, .return_, 1)]
theorem tb_X0_passRun : ∀ q ∈ tab_X0_passRun, decode m_X0_passRun.2.1 q.1 = .ok q.2 := by decide +kernel
def tab_X0_refuse : List (Nat × Instr × Nat) := [(0, .aload_n 0, 1), (1, .iload_n 1, 1), (2, .putfield 33, 3), (5, .aload_n 0, 1), (6, .iload_n 2, 1), (7, .putfield 36, 3), (10, .iconst 0, 1), (11, .ireturn, 1)]
theorem tb_X0_refuse : ∀ q ∈ tab_X0_refuse, decode m_X0_refuse.2.1 q.1 = .ok q.2 := by decide +kernel
def tab_X1_isOne : List (Nat × Instr × Nat) := [(0, .iload_n 1, 1), (1, .iconst 0, 1), (2, .iconst 3, 1), (3, .invokestatic 21, 3), (6, .ireturn, 1)]
theorem tb_X1_isOne : ∀ q ∈ tab_X1_isOne, decode m_X1_isOne.2.1 q.1 = .ok q.2 := by decide +kernel
def tab_X1_isLane : List (Nat × Instr × Nat) := [(0, .iload_n 1, 1), (1, .iconst 0, 1), (2, .iconst 2, 1), (3, .invokestatic 21, 3), (6, .ireturn, 1)]
theorem tb_X1_isLane : ∀ q ∈ tab_X1_isLane, decode m_X1_isLane.2.1 q.1 = .ok q.2 := by decide +kernel
def tab_X1_isNothing : List (Nat × Instr × Nat) := [(0, .aload_n 0, 1), (1, .getfield 11, 3), (4, .iload_n 1, 1), (5, .iaload, 1), (6, .iconst (-1), 1), (7, .if_icmp .ne 7, 3), (10, .iconst 1, 1), (11, .goto 4, 3), (14, .iconst 0, 1), (15, .ireturn, 1)]
theorem tb_X1_isNothing : ∀ q ∈ tab_X1_isNothing, decode m_X1_isNothing.2.1 q.1 = .ok q.2 := by decide +kernel
def tab_X1_renew : List (Nat × Instr × Nat) := [(0, .aload_n 0, 1), (1, .getfield 11, 3), (4, .iload_n 1, 1), (5, .iload_n 2, 1), (6, .iastore, 1), (7, .aload_n 0, 1), (8, .getfield 15, 3), (11, .iload_n 1, 1), (12, .iload_n 3, 1), (13, .iastore, 1), (14, .iconst 0, 1), (15, .istore 4, 2), (17, .iload 4, 2), (19, .iload_n 3, 1), (20, .if_icmp .ge 22, 3), (23, .aload_n 0, 1), (24, .getfield 18, 3), (27, .iload_n 1, 1), (28, .bipush 40, 2), (30, .imul, 1), (31, .iload 4, 2), (33, .iadd, 1), (34, .iconst 0, 1), (35, .iastore, 1), (36, .iinc 4 1, 3), (39, .goto (-22), 3), (42, .return_, 1)]
theorem tb_X1_renew : ∀ q ∈ tab_X1_renew, decode m_X1_renew.2.1 q.1 = .ok q.2 := by decide +kernel
def tab_X1_faultOf : List (Nat × Instr × Nat) := [(0, .aload_n 0, 1), (1, .iload_n 1, 1), (2, .invokevirtual 25, 3), (5, .ifCond .eq 5, 3), (8, .iconst 1, 1), (9, .ireturn, 1), (10, .aload_n 0, 1), (11, .getfield 11, 3), (14, .iload_n 1, 1), (15, .iaload, 1), (16, .iload_n 2, 1), (17, .if_icmp .eq 5, 3), (20, .iconst 3, 1), (21, .ireturn, 1), (22, .iload_n 3, 1), (23, .iconst 0, 1), (24, .aload_n 0, 1), (25, .getfield 15, 3), (28, .iload_n 1, 1), (29, .iaload, 1), (30, .iconst 1, 1), (31, .isub, 1), (32, .invokestatic 21, 3), (35, .ifCond .eq 7, 3), (38, .iconst 0, 1), (39, .goto 4, 3), (42, .iconst 2, 1), (43, .ireturn, 1)]
theorem tb_X1_faultOf : ∀ q ∈ tab_X1_faultOf, decode m_X1_faultOf.2.1 q.1 = .ok q.2 := by decide +kernel
def tab_X1_faultOfPair : List (Nat × Instr × Nat) := [(0, .aload_n 0, 1), (1, .iload_n 1, 1), (2, .iload_n 2, 1), (3, .iload_n 3, 1), (4, .invokevirtual 29, 3), (7, .istore 4, 2), (9, .iload 4, 2), (11, .ifCond .eq 8, 3), (14, .iload 4, 2), (16, .goto 12, 3), (19, .aload_n 0, 1), (20, .iload_n 1, 1), (21, .iload_n 2, 1), (22, .iload_n 3, 1), (23, .iconst 1, 1), (24, .iadd, 1), (25, .invokevirtual 29, 3), (28, .ireturn, 1)]
theorem tb_X1_faultOfPair : ∀ q ∈ tab_X1_faultOfPair, decode m_X1_faultOfPair.2.1 q.1 = .ok q.2 := by decide +kernel
def tab_X1_cell : List (Nat × Instr × Nat) := [(0, .aload_n 0, 1), (1, .getfield 18, 3), (4, .iload_n 1, 1), (5, .bipush 40, 2), (7, .imul, 1), (8, .iload_n 2, 1), (9, .iadd, 1), (10, .iaload, 1), (11, .ireturn, 1)]
theorem tb_X1_cell : ∀ q ∈ tab_X1_cell, decode m_X1_cell.2.1 q.1 = .ok q.2 := by decide +kernel
def tab_X1_put : List (Nat × Instr × Nat) := [(0, .iload_n 3, 1), (1, .istore 4, 2), (3, .aload_n 0, 1), (4, .getfield 11, 3), (7, .iload_n 1, 1), (8, .iaload, 1), (9, .ifCond .ne 10, 3), (12, .iload_n 3, 1), (13, .i2b, 1), (14, .istore 4, 2), (16, .goto 17, 3), (19, .aload_n 0, 1), (20, .getfield 11, 3), (23, .iload_n 1, 1), (24, .iaload, 1), (25, .iconst 1, 1), (26, .if_icmp .ne 7, 3), (29, .iload_n 3, 1), (30, .i2s, 1), (31, .istore 4, 2), (33, .aload_n 0, 1), (34, .getfield 18, 3), (37, .iload_n 1, 1), (38, .bipush 40, 2), (40, .imul, 1), (41, .iload_n 2, 1), (42, .iadd, 1), (43, .iload 4, 2), (45, .iastore, 1), (46, .return_, 1)]
theorem tb_X1_put : ∀ q ∈ tab_X1_put, decode m_X1_put.2.1 q.1 = .ok q.2 := by decide +kernel
def tab_X3_empty : List (Nat × Instr × Nat) := [(0, .aload_n 0, 1), (1, .iconst 0, 1), (2, .putfield 42, 3), (5, .aload_n 0, 1), (6, .iconst 0, 1), (7, .putfield 46, 3), (10, .aload_n 0, 1), (11, .iconst 0, 1), (12, .putfield 49, 3), (15, .aload_n 0, 1), (16, .iconst 0, 1), (17, .putfield 52, 3), (20, .return_, 1)]
theorem tb_X3_empty : ∀ q ∈ tab_X3_empty, decode m_X3_empty.2.1 q.1 = .ok q.2 := by decide +kernel
def tab_X3_become : List (Nat × Instr × Nat) := [(0, .aload_n 0, 1), (1, .aload_n 1, 1), (2, .getfield 42, 3), (5, .putfield 42, 3), (8, .aload_n 1, 1), (9, .getfield 9, 3), (12, .iconst 0, 1), (13, .aload_n 0, 1), (14, .getfield 9, 3), (17, .iconst 0, 1), (18, .iconst 4, 1), (19, .invokestatic 55, 3), (22, .aload_n 1, 1), (23, .getfield 15, 3), (26, .iconst 0, 1), (27, .aload_n 0, 1), (28, .getfield 15, 3), (31, .iconst 0, 1), (32, .iconst 4, 1), (33, .invokestatic 55, 3), (36, .aload_n 1, 1), (37, .getfield 18, 3), (40, .iconst 0, 1), (41, .aload_n 0, 1), (42, .getfield 18, 3), (45, .iconst 0, 1), (46, .iconst 4, 1), (47, .invokestatic 55, 3), (50, .aload_n 1, 1), (51, .getfield 21, 3), (54, .iconst 0, 1), (55, .aload_n 0, 1), (56, .getfield 21, 3), (59, .iconst 0, 1), (60, .iconst 4, 1), (61, .invokestatic 55, 3), (64, .aload_n 1, 1), (65, .getfield 24, 3), (68, .iconst 0, 1), (69, .aload_n 0, 1), (70, .getfield 24, 3), (73, .iconst 0, 1), (74, .iconst 4, 1), (75, .invokestatic 55, 3), (78, .aload_n 0, 1), (79, .aload_n 1, 1), (80, .getfield 46, 3), (83, .putfield 46, 3), (86, .aload_n 1, 1), (87, .getfield 27, 3), (90, .iconst 0, 1), (91, .aload_n 0, 1), (92, .getfield 27, 3), (95, .iconst 0, 1), (96, .iconst 3, 1), (97, .invokestatic 55, 3), (100, .aload_n 1, 1), (101, .getfield 30, 3), (104, .iconst 0, 1), (105, .aload_n 0, 1), (106, .getfield 30, 3), (109, .iconst 0, 1), (110, .iconst 3, 1), (111, .invokestatic 55, 3), (114, .aload_n 0, 1), (115, .aload_n 1, 1), (116, .getfield 49, 3), (119, .putfield 49, 3), (122, .aload_n 0, 1), (123, .aload_n 1, 1), (124, .getfield 52, 3), (127, .putfield 52, 3), (130, .aload_n 1, 1), (131, .getfield 33, 3), (134, .iconst 0, 1), (135, .aload_n 0, 1), (136, .getfield 33, 3), (139, .iconst 0, 1), (140, .bipush 6, 2), (142, .invokestatic 55, 3), (145, .aload_n 1, 1), (146, .getfield 36, 3), (149, .iconst 0, 1), (150, .aload_n 0, 1), (151, .getfield 36, 3), (154, .iconst 0, 1), (155, .bipush 6, 2), (157, .invokestatic 55, 3), (160, .aload_n 1, 1), (161, .getfield 39, 3), (164, .iconst 0, 1), (165, .aload_n 0, 1), (166, .getfield 39, 3), (169, .iconst 0, 1), (170, .bipush 6, 2), (172, .invokestatic 55, 3), (175, .return_, 1)]
theorem tb_X3_become : ∀ q ∈ tab_X3_become, decode m_X3_become.2.1 q.1 = .ok q.2 := by decide +kernel
def tab_X3_hasGhost : List (Nat × Instr × Nat) := [(0, .iload_n 1, 1), (1, .iconst 0, 1), (2, .aload_n 0, 1), (3, .getfield 42, 3), (6, .iconst 1, 1), (7, .isub, 1), (8, .invokestatic 61, 3), (11, .ireturn, 1)]
theorem tb_X3_hasGhost : ∀ q ∈ tab_X3_hasGhost, decode m_X3_hasGhost.2.1 q.1 = .ok q.2 := by decide +kernel
def tab_X3_hasClerk : List (Nat × Instr × Nat) := [(0, .iload_n 1, 1), (1, .iconst 0, 1), (2, .aload_n 0, 1), (3, .getfield 46, 3), (6, .iconst 1, 1), (7, .isub, 1), (8, .invokestatic 61, 3), (11, .ireturn, 1)]
theorem tb_X3_hasClerk : ∀ q ∈ tab_X3_hasClerk, decode m_X3_hasClerk.2.1 q.1 = .ok q.2 := by decide +kernel
def tab_X3_addGhost : List (Nat × Instr × Nat) := [(0, .aload_n 0, 1), (1, .getfield 42, 3), (4, .iconst 4, 1), (5, .if_icmp .ge 64, 3), (8, .aload_n 0, 1), (9, .getfield 9, 3), (12, .aload_n 0, 1), (13, .getfield 42, 3), (16, .iload_n 1, 1), (17, .iastore, 1), (18, .aload_n 0, 1), (19, .getfield 15, 3), (22, .aload_n 0, 1), (23, .getfield 42, 3), (26, .iload_n 2, 1), (27, .iastore, 1), (28, .aload_n 0, 1), (29, .getfield 18, 3), (32, .aload_n 0, 1), (33, .getfield 42, 3), (36, .iload_n 3, 1), (37, .iastore, 1), (38, .aload_n 0, 1), (39, .getfield 21, 3), (42, .aload_n 0, 1), (43, .getfield 42, 3), (46, .iload 4, 2), (48, .iastore, 1), (49, .aload_n 0, 1), (50, .getfield 24, 3), (53, .aload_n 0, 1), (54, .getfield 42, 3), (57, .iconst 0, 1), (58, .iastore, 1), (59, .aload_n 0, 1), (60, .dup, 1), (61, .getfield 42, 3), (64, .iconst 1, 1), (65, .iadd, 1), (66, .putfield 42, 3), (69, .return_, 1)]
theorem tb_X3_addGhost : ∀ q ∈ tab_X3_addGhost, decode m_X3_addGhost.2.1 q.1 = .ok q.2 := by decide +kernel
def tab_X3_addClerk : List (Nat × Instr × Nat) := [(0, .aload_n 0, 1), (1, .getfield 46, 3), (4, .iconst 3, 1), (5, .if_icmp .ge 33, 3), (8, .aload_n 0, 1), (9, .getfield 27, 3), (12, .aload_n 0, 1), (13, .getfield 46, 3), (16, .iload_n 1, 1), (17, .iastore, 1), (18, .aload_n 0, 1), (19, .getfield 30, 3), (22, .aload_n 0, 1), (23, .getfield 46, 3), (26, .iload_n 2, 1), (27, .iastore, 1), (28, .aload_n 0, 1), (29, .dup, 1), (30, .getfield 46, 3), (33, .iconst 1, 1), (34, .iadd, 1), (35, .putfield 46, 3), (38, .return_, 1)]
theorem tb_X3_addClerk : ∀ q ∈ tab_X3_addClerk, decode m_X3_addClerk.2.1 q.1 = .ok q.2 := by decide +kernel
def tab_X3_told : List (Nat × Instr × Nat) := [(0, .iload_n 2, 1), (1, .tableswitch 59 0 3 #[31, 38, 45, 52], 31), (32, .aload_n 0, 1), (33, .getfield 9, 3), (36, .iload_n 1, 1), (37, .iaload, 1), (38, .ireturn, 1), (39, .aload_n 0, 1), (40, .getfield 15, 3), (43, .iload_n 1, 1), (44, .iaload, 1), (45, .ireturn, 1), (46, .aload_n 0, 1), (47, .getfield 18, 3), (50, .iload_n 1, 1), (51, .iaload, 1), (52, .ireturn, 1), (53, .aload_n 0, 1), (54, .getfield 21, 3), (57, .iload_n 1, 1), (58, .iaload, 1), (59, .ireturn, 1), (60, .aload_n 0, 1), (61, .getfield 24, 3), (64, .iload_n 1, 1), (65, .iaload, 1), (66, .ireturn, 1)]
theorem tb_X3_told : ∀ q ∈ tab_X3_told, decode m_X3_told.2.1 q.1 = .ok q.2 := by decide +kernel
def tab_X3_tell : List (Nat × Instr × Nat) := [(0, .iload_n 2, 1), (1, .tableswitch 71 0 3 #[31, 41, 51, 61], 31), (32, .aload_n 0, 1), (33, .getfield 9, 3), (36, .iload_n 1, 1), (37, .iload_n 3, 1), (38, .iastore, 1), (39, .goto 40, 3), (42, .aload_n 0, 1), (43, .getfield 15, 3), (46, .iload_n 1, 1), (47, .iload_n 3, 1), (48, .iastore, 1), (49, .goto 30, 3), (52, .aload_n 0, 1), (53, .getfield 18, 3), (56, .iload_n 1, 1), (57, .iload_n 3, 1), (58, .iastore, 1), (59, .goto 20, 3), (62, .aload_n 0, 1), (63, .getfield 21, 3), (66, .iload_n 1, 1), (67, .iload_n 3, 1), (68, .iastore, 1), (69, .goto 10, 3), (72, .aload_n 0, 1), (73, .getfield 24, 3), (76, .iload_n 1, 1), (77, .iload_n 3, 1), (78, .iastore, 1), (79, .return_, 1)]
theorem tb_X3_tell : ∀ q ∈ tab_X3_tell, decode m_X3_tell.2.1 q.1 = .ok q.2 := by decide +kernel
def tab_X3_answer : List (Nat × Instr × Nat) := [(0, .aload_n 0, 1), (1, .getfield 9, 3), (4, .iload_n 1, 1), (5, .iaload, 1), (6, .aload_n 0, 1), (7, .getfield 15, 3), (10, .iload_n 1, 1), (11, .iaload, 1), (12, .aload_n 0, 1), (13, .getfield 18, 3), (16, .iload_n 1, 1), (17, .iaload, 1), (18, .invokestatic 65, 3), (21, .ireturn, 1)]
theorem tb_X3_answer : ∀ q ∈ tab_X3_answer, decode m_X3_answer.2.1 q.1 = .ok q.2 := by decide +kernel
def tab_X3_steps : List (Nat × Instr × Nat) := [(0, .aload_n 0, 1), (1, .getfield 9, 3), (4, .iload_n 1, 1), (5, .iaload, 1), (6, .aload_n 0, 1), (7, .iload_n 1, 1), (8, .invokevirtual 69, 3), (11, .invokestatic 73, 3), (14, .ireturn, 1)]
theorem tb_X3_steps : ∀ q ∈ tab_X3_steps, decode m_X3_steps.2.1 q.1 = .ok q.2 := by decide +kernel
def tab_X3_left : List (Nat × Instr × Nat) := [(0, .iconst 0, 1), (1, .aload_n 0, 1), (2, .iload_n 1, 1), (3, .invokevirtual 77, 3), (6, .aload_n 0, 1), (7, .getfield 24, 3), (10, .iload_n 1, 1), (11, .iaload, 1), (12, .isub, 1), (13, .invokestatic 80, 3), (16, .ireturn, 1)]
theorem tb_X3_left : ∀ q ∈ tab_X3_left, decode m_X3_left.2.1 q.1 = .ok q.2 := by decide +kernel
def tab_X3_creaks : List (Nat × Instr × Nat) := [(0, .aload_n 0, 1), (1, .getfield 15, 3), (4, .iload_n 1, 1), (5, .iaload, 1), (6, .invokestatic 85, 3), (9, .aload_n 0, 1), (10, .getfield 18, 3), (13, .iload_n 1, 1), (14, .iaload, 1), (15, .invokestatic 85, 3), (18, .iadd, 1), (19, .aload_n 0, 1), (20, .iload_n 1, 1), (21, .invokevirtual 69, 3), (24, .invokestatic 85, 3), (27, .iadd, 1), (28, .ireturn, 1)]
theorem tb_X3_creaks : ∀ q ∈ tab_X3_creaks, decode m_X3_creaks.2.1 q.1 = .ok q.2 := by decide +kernel
def tab_X3_creaksOfAll : List (Nat × Instr × Nat) := [(0, .iconst 0, 1), (1, .istore_n 1, 1), (2, .iconst 0, 1), (3, .istore_n 2, 1), (4, .iload_n 2, 1), (5, .aload_n 0, 1), (6, .getfield 42, 3), (9, .if_icmp .ge 17, 3), (12, .iload_n 1, 1), (13, .aload_n 0, 1), (14, .iload_n 2, 1), (15, .invokevirtual 88, 3), (18, .iadd, 1), (19, .istore_n 1, 1), (20, .iinc 2 1, 3), (23, .goto (-19), 3), (26, .iload_n 1, 1), (27, .ireturn, 1)]
theorem tb_X3_creaksOfAll : ∀ q ∈ tab_X3_creaksOfAll, decode m_X3_creaksOfAll.2.1 q.1 = .ok q.2 := by decide +kernel
def tab_X3_skillOfAll : List (Nat × Instr × Nat) := [(0, .iconst 0, 1), (1, .istore_n 1, 1), (2, .iconst 0, 1), (3, .istore_n 2, 1), (4, .iload_n 2, 1), (5, .aload_n 0, 1), (6, .getfield 46, 3), (9, .if_icmp .ge 18, 3), (12, .iload_n 1, 1), (13, .aload_n 0, 1), (14, .getfield 30, 3), (17, .iload_n 2, 1), (18, .iaload, 1), (19, .iadd, 1), (20, .istore_n 1, 1), (21, .iinc 2 1, 3), (24, .goto (-20), 3), (27, .iload_n 1, 1), (28, .ireturn, 1)]
theorem tb_X3_skillOfAll : ∀ q ∈ tab_X3_skillOfAll, decode m_X3_skillOfAll.2.1 q.1 = .ok q.2 := by decide +kernel
def tab_X3_lastSeenBehind : List (Nat × Instr × Nat) := [(0, .iconst (-1), 1), (1, .istore_n 1, 1), (2, .iconst 0, 1), (3, .istore_n 2, 1), (4, .iload_n 2, 1), (5, .aload_n 0, 1), (6, .getfield 52, 3), (9, .if_icmp .ge 20, 3), (12, .iload_n 1, 1), (13, .aload_n 0, 1), (14, .getfield 36, 3), (17, .iload_n 2, 1), (18, .iaload, 1), (19, .invokestatic 80, 3), (22, .istore_n 1, 1), (23, .iinc 2 1, 3), (26, .goto (-22), 3), (29, .iload_n 1, 1), (30, .ireturn, 1)]
theorem tb_X3_lastSeenBehind : ∀ q ∈ tab_X3_lastSeenBehind, decode m_X3_lastSeenBehind.2.1 q.1 = .ok q.2 := by decide +kernel
def tab_X3_agrees : List (Nat × Instr × Nat) := [(0, .iconst 0, 1), (1, .istore_n 3, 1), (2, .iload_n 3, 1), (3, .aload_n 0, 1), (4, .getfield 52, 3), (7, .if_icmp .ge 41, 3), (10, .aload_n 0, 1), (11, .getfield 36, 3), (14, .iload_n 3, 1), (15, .iaload, 1), (16, .iload_n 2, 1), (17, .if_icmp .ne 25, 3), (20, .aload_n 1, 1), (21, .getfield 91, 3), (24, .aload_n 0, 1), (25, .getfield 33, 3), (28, .iload_n 3, 1), (29, .iaload, 1), (30, .iaload, 1), (31, .aload_n 0, 1), (32, .getfield 39, 3), (35, .iload_n 3, 1), (36, .iaload, 1), (37, .if_icmp .eq 5, 3), (40, .iconst 0, 1), (41, .ireturn, 1), (42, .iinc 3 1, 3), (45, .goto (-43), 3), (48, .iconst 1, 1), (49, .ireturn, 1)]
theorem tb_X3_agrees : ∀ q ∈ tab_X3_agrees, decode m_X3_agrees.2.1 q.1 = .ok q.2 := by decide +kernel
def tab_X3_settle : List (Nat × Instr × Nat) := [(0, .iconst 0, 1), (1, .istore_n 3, 1), (2, .iload_n 3, 1), (3, .aload_n 0, 1), (4, .getfield 42, 3), (7, .if_icmp .ge 53, 3), (10, .aload_n 1, 1), (11, .getfield 94, 3), (14, .iload_n 3, 1), (15, .iaload, 1), (16, .aload_n 0, 1), (17, .iload_n 3, 1), (18, .invokevirtual 97, 3), (21, .if_icmp .ge 21, 3), (24, .aload_n 0, 1), (25, .getfield 24, 3), (28, .iload_n 3, 1), (29, .aload_n 0, 1), (30, .iload_n 3, 1), (31, .invokevirtual 77, 3), (34, .aload_n 1, 1), (35, .getfield 94, 3), (38, .iload_n 3, 1), (39, .iaload, 1), (40, .isub, 1), (41, .iastore, 1), (42, .aload_n 0, 1), (43, .getfield 21, 3), (46, .iload_n 3, 1), (47, .aload_n 1, 1), (48, .getfield 91, 3), (51, .iload_n 3, 1), (52, .iaload, 1), (53, .iastore, 1), (54, .iinc 3 1, 3), (57, .goto (-55), 3), (60, .iconst 0, 1), (61, .istore_n 3, 1), (62, .iload_n 3, 1), (63, .aload_n 0, 1), (64, .getfield 46, 3), (67, .if_icmp .ge 21, 3), (70, .aload_n 0, 1), (71, .getfield 27, 3), (74, .iload_n 3, 1), (75, .aload_n 1, 1), (76, .getfield 99, 3), (79, .iload_n 3, 1), (80, .iaload, 1), (81, .iastore, 1), (82, .iinc 3 1, 3), (85, .goto (-23), 3), (88, .aload_n 0, 1), (89, .dup, 1), (90, .getfield 49, 3), (93, .iload_n 2, 1), (94, .iadd, 1), (95, .putfield 49, 3), (98, .return_, 1)]
theorem tb_X3_settle : ∀ q ∈ tab_X3_settle, decode m_X3_settle.2.1 q.1 = .ok q.2 := by decide +kernel
def tab_X4_begin : List (Nat × Instr × Nat) := [(0, .aload_n 0, 1), (1, .aload_n 1, 1), (2, .getfield 30, 3), (5, .putfield 36, 3), (8, .iconst 0, 1), (9, .istore_n 2, 1), (10, .iload_n 2, 1), (11, .aload_n 0, 1), (12, .getfield 36, 3), (15, .if_icmp .ge 50, 3), (18, .aload_n 0, 1), (19, .getfield 9, 3), (22, .iload_n 2, 1), (23, .aload_n 1, 1), (24, .getfield 37, 3), (27, .iload_n 2, 1), (28, .iaload, 1), (29, .iastore, 1), (30, .aload_n 0, 1), (31, .iload_n 2, 1), (32, .aload_n 1, 1), (33, .getfield 38, 3), (36, .iload_n 2, 1), (37, .iaload, 1), (38, .aload_n 1, 1), (39, .getfield 41, 3), (42, .iload_n 2, 1), (43, .iaload, 1), (44, .aload_n 1, 1), (45, .getfield 44, 3), (48, .iload_n 2, 1), (49, .iaload, 1), (50, .aload_n 1, 1), (51, .getfield 47, 3), (54, .iload_n 2, 1), (55, .iaload, 1), (56, .invokevirtual 50, 3), (59, .iinc 2 1, 3), (62, .goto (-52), 3), (65, .aload_n 0, 1), (66, .aload_n 1, 1), (67, .getfield 54, 3), (70, .putfield 57, 3), (73, .iconst 0, 1), (74, .istore_n 2, 1), (75, .iload_n 2, 1), (76, .aload_n 0, 1), (77, .getfield 57, 3), (80, .if_icmp .ge 33, 3), (83, .aload_n 0, 1), (84, .getfield 21, 3), (87, .iload_n 2, 1), (88, .aload_n 1, 1), (89, .getfield 58, 3), (92, .iload_n 2, 1), (93, .iaload, 1), (94, .iastore, 1), (95, .aload_n 0, 1), (96, .getfield 24, 3), (99, .iload_n 2, 1), (100, .aload_n 1, 1), (101, .getfield 59, 3), (104, .iload_n 2, 1), (105, .iaload, 1), (106, .iastore, 1), (107, .iinc 2 1, 3), (110, .goto (-35), 3), (113, .aload_n 0, 1), (114, .iconst 0, 1), (115, .putfield 60, 3), (118, .iconst 0, 1), (119, .istore_n 2, 1), (120, .iload_n 2, 1), (121, .bipush 6, 2), (123, .if_icmp .ge 16, 3), (126, .aload_n 0, 1), (127, .getfield 27, 3), (130, .iload_n 2, 1), (131, .iconst 0, 1), (132, .iastore, 1), (133, .iinc 2 1, 3), (136, .goto (-16), 3), (139, .return_, 1)]
theorem tb_X4_begin : ∀ q ∈ tab_X4_begin, decode m_X4_begin.2.1 q.1 = .ok q.2 := by decide +kernel
def tab_X4_reckon : List (Nat × Instr × Nat) := [(0, .iload_n 2, 1), (1, .iload_n 3, 1), (2, .iload 4, 2), (4, .invokestatic 63, 3), (7, .istore 6, 2), (9, .aload_n 0, 1), (10, .getfield 15, 3), (13, .iload_n 1, 1), (14, .iconst 0, 1), (15, .iload_n 2, 1), (16, .iload 6, 2), (18, .invokestatic 67, 3), (21, .iload 5, 2), (23, .isub, 1), (24, .invokestatic 71, 3), (27, .iastore, 1), (28, .aload_n 0, 1), (29, .getfield 18, 3), (32, .iload_n 1, 1), (33, .iload 6, 2), (35, .bipush 6, 2), (37, .irem, 1), (38, .iastore, 1), (39, .return_, 1)]
theorem tb_X4_reckon : ∀ q ∈ tab_X4_reckon, decode m_X4_reckon.2.1 q.1 = .ok q.2 := by decide +kernel
def tab_X4_go : List (Nat × Instr × Nat) := [(0, .iconst 0, 1), (1, .istore_n 2, 1), (2, .iload_n 2, 1), (3, .iload_n 1, 1), (4, .if_icmp .ge 13, 3), (7, .aload_n 0, 1), (8, .invokevirtual 76, 3), (11, .iinc 2 1, 3), (14, .goto (-12), 3), (17, .return_, 1)]
theorem tb_X4_go : ∀ q ∈ tab_X4_go, decode m_X4_go.2.1 q.1 = .ok q.2 := by decide +kernel
def tab_X4_goOneNight : List (Nat × Instr × Nat) := [(0, .iconst 0, 1), (1, .istore_n 1, 1), (2, .iload_n 1, 1), (3, .aload_n 0, 1), (4, .getfield 57, 3), (7, .if_icmp .ge 25, 3), (10, .aload_n 0, 1), (11, .aload_n 0, 1), (12, .getfield 21, 3), (15, .iload_n 1, 1), (16, .iaload, 1), (17, .aload_n 0, 1), (18, .getfield 24, 3), (21, .iload_n 1, 1), (22, .iaload, 1), (23, .invokevirtual 79, 3), (26, .iinc 1 1, 3), (29, .goto (-27), 3), (32, .iconst 0, 1), (33, .istore_n 1, 1), (34, .iload_n 1, 1), (35, .aload_n 0, 1), (36, .getfield 36, 3), (39, .if_icmp .ge 75, 3), (42, .aload_n 0, 1), (43, .getfield 15, 3), (46, .iload_n 1, 1), (47, .iaload, 1), (48, .ifCond .le 60, 3), (51, .aload_n 0, 1), (52, .dup, 1), (53, .getfield 60, 3), (56, .aload_n 0, 1), (57, .getfield 15, 3), (60, .iload_n 1, 1), (61, .iaload, 1), (62, .iadd, 1), (63, .putfield 60, 3), (66, .aload_n 0, 1), (67, .getfield 27, 3), (70, .aload_n 0, 1), (71, .getfield 9, 3), (74, .iload_n 1, 1), (75, .iaload, 1), (76, .dup2, 1), (77, .iaload, 1), (78, .aload_n 0, 1), (79, .getfield 15, 3), (82, .iload_n 1, 1), (83, .iaload, 1), (84, .iadd, 1), (85, .iastore, 1), (86, .aload_n 0, 1), (87, .getfield 9, 3), (90, .iload_n 1, 1), (91, .aload_n 0, 1), (92, .getfield 9, 3), (95, .iload_n 1, 1), (96, .iaload, 1), (97, .aload_n 0, 1), (98, .getfield 18, 3), (101, .iload_n 1, 1), (102, .iaload, 1), (103, .iadd, 1), (104, .bipush 6, 2), (106, .irem, 1), (107, .iastore, 1), (108, .iinc 1 1, 3), (111, .goto (-77), 3), (114, .return_, 1)]
theorem tb_X4_goOneNight : ∀ q ∈ tab_X4_goOneNight, decode m_X4_goOneNight.2.1 q.1 = .ok q.2 := by decide +kernel
def tab_X4_work : List (Nat × Instr × Nat) := [(0, .iconst 0, 1), (1, .istore_n 3, 1), (2, .iload_n 3, 1), (3, .aload_n 0, 1), (4, .getfield 36, 3), (7, .if_icmp .ge 47, 3), (10, .aload_n 0, 1), (11, .getfield 15, 3), (14, .iload_n 3, 1), (15, .iaload, 1), (16, .ifCond .le 32, 3), (19, .aload_n 0, 1), (20, .getfield 9, 3), (23, .iload_n 3, 1), (24, .iaload, 1), (25, .iload_n 1, 1), (26, .if_icmp .ne 22, 3), (29, .aload_n 0, 1), (30, .getfield 15, 3), (33, .iload_n 3, 1), (34, .iconst 0, 1), (35, .aload_n 0, 1), (36, .getfield 15, 3), (39, .iload_n 3, 1), (40, .iaload, 1), (41, .iload_n 2, 1), (42, .isub, 1), (43, .invokestatic 71, 3), (46, .iastore, 1), (47, .return_, 1), (48, .iinc 3 1, 3), (51, .goto (-49), 3), (54, .return_, 1)]
theorem tb_X4_work : ∀ q ∈ tab_X4_work, decode m_X4_work.2.1 q.1 = .ok q.2 := by decide +kernel
def tab_X4_tillRest : List (Nat × Instr × Nat) := [(0, .iconst 0, 1), (1, .istore_n 3, 1), (2, .iload_n 3, 1), (3, .iload_n 2, 1), (4, .if_icmp .gt 25, 3), (7, .aload_n 0, 1), (8, .invokevirtual 83, 3), (11, .iload_n 1, 1), (12, .iand, 1), (13, .iload_n 1, 1), (14, .if_icmp .ne 5, 3), (17, .iload_n 3, 1), (18, .ireturn, 1), (19, .aload_n 0, 1), (20, .invokevirtual 76, 3), (23, .iinc 3 1, 3), (26, .goto (-24), 3), (29, .bipush (-4), 2), (31, .ireturn, 1)]
theorem tb_X4_tillRest : ∀ q ∈ tab_X4_tillRest, decode m_X4_tillRest.2.1 q.1 = .ok q.2 := by decide +kernel
def tab_X4_resting : List (Nat × Instr × Nat) := [(0, .iconst 0, 1), (1, .istore_n 1, 1), (2, .iconst 0, 1), (3, .istore_n 2, 1), (4, .iload_n 2, 1), (5, .aload_n 0, 1), (6, .getfield 36, 3), (9, .if_icmp .ge 24, 3), (12, .aload_n 0, 1), (13, .getfield 15, 3), (16, .iload_n 2, 1), (17, .iaload, 1), (18, .ifCond .ne 9, 3), (21, .iload_n 1, 1), (22, .iconst 1, 1), (23, .iload_n 2, 1), (24, .ishl, 1), (25, .ior, 1), (26, .istore_n 1, 1), (27, .iinc 2 1, 3), (30, .goto (-26), 3), (33, .iload_n 1, 1), (34, .ireturn, 1)]
theorem tb_X4_resting : ∀ q ∈ tab_X4_resting, decode m_X4_resting.2.1 q.1 = .ok q.2 := by decide +kernel
def tab_X4_leftOfAll : List (Nat × Instr × Nat) := [(0, .iconst 0, 1), (1, .istore_n 1, 1), (2, .iconst 0, 1), (3, .istore_n 2, 1), (4, .iload_n 2, 1), (5, .aload_n 0, 1), (6, .getfield 36, 3), (9, .if_icmp .ge 18, 3), (12, .iload_n 1, 1), (13, .aload_n 0, 1), (14, .getfield 15, 3), (17, .iload_n 2, 1), (18, .iaload, 1), (19, .iadd, 1), (20, .istore_n 1, 1), (21, .iinc 2 1, 3), (24, .goto (-20), 3), (27, .iload_n 1, 1), (28, .ireturn, 1)]
theorem tb_X4_leftOfAll : ∀ q ∈ tab_X4_leftOfAll, decode m_X4_leftOfAll.2.1 q.1 = .ok q.2 := by decide +kernel
def tab_X5_feed : List (Nat × Instr × Nat) := [(0, .iload_n 1, 1), (1, .iconst 0, 1), (2, .bipush 127, 2), (4, .invokestatic 58, 3), (7, .ifCond .ne 5, 3), (10, .iconst (-1), 1), (11, .ireturn, 1), (12, .aload_n 0, 1), (13, .getfield 26, 3), (16, .getfield 62, 3), (19, .sipush 160, 3), (22, .if_icmp .lt 6, 3), (25, .bipush (-3), 2), (27, .ireturn, 1), (28, .aload_n 0, 1), (29, .getfield 26, 3), (32, .getfield 66, 3), (35, .aload_n 0, 1), (36, .getfield 26, 3), (39, .getfield 62, 3), (42, .iload_n 1, 1), (43, .iastore, 1), (44, .aload_n 0, 1), (45, .getfield 26, 3), (48, .dup, 1), (49, .getfield 62, 3), (52, .iconst 1, 1), (53, .iadd, 1), (54, .putfield 62, 3), (57, .aload_n 0, 1), (58, .getfield 26, 3), (61, .getfield 62, 3), (64, .ireturn, 1)]
theorem tb_X5_feed : ∀ q ∈ tab_X5_feed, decode m_X5_feed.2.1 q.1 = .ok q.2 := by decide +kernel
def tab_X5_end : List (Nat × Instr × Nat) := [(0, .iload_n 1, 1), (1, .iconst 0, 1), (2, .aload_n 0, 1), (3, .getfield 26, 3), (6, .getfield 62, 3), (9, .invokestatic 58, 3), (12, .ifCond .ne 5, 3), (15, .iconst (-1), 1), (16, .ireturn, 1), (17, .aload_n 0, 1), (18, .getfield 26, 3), (21, .getfield 62, 3), (24, .istore_n 2, 1), (25, .aload_n 0, 1), (26, .getfield 26, 3), (29, .iload_n 1, 1), (30, .putfield 62, 3), (33, .iload_n 2, 1), (34, .ireturn, 1)]
theorem tb_X5_end : ∀ q ∈ tab_X5_end, decode m_X5_end.2.1 q.1 = .ok q.2 := by decide +kernel
def tab_X5_text : List (Nat × Instr × Nat) := [(0, .aload_n 0, 1), (1, .getfield 35, 3), (4, .invokevirtual 69, 3), (7, .istore_n 1, 1), (8, .aload_n 0, 1), (9, .getfield 26, 3), (12, .iconst 0, 1), (13, .putfield 62, 3), (16, .aload_n 0, 1), (17, .aload_n 0, 1), (18, .getfield 35, 3), (21, .getfield 73, 3), (24, .putfield 76, 3), (27, .aload_n 0, 1), (28, .getfield 35, 3), (31, .getfield 73, 3), (34, .ifCond .eq 14, 3), (37, .bipush (-10), 2), (39, .aload_n 0, 1), (40, .getfield 35, 3), (43, .getfield 79, 3), (46, .isub, 1), (47, .ireturn, 1), (48, .aload_n 0, 1), (49, .getfield 19, 3), (52, .aload_n 0, 1), (53, .getfield 35, 3), (56, .getfield 82, 3), (59, .invokevirtual 85, 3), (62, .iconst 0, 1), (63, .istore_n 2, 1), (64, .iload_n 2, 1), (65, .iconst 2, 1), (66, .if_icmp .ge 16, 3), (69, .aload_n 0, 1), (70, .getfield 43, 3), (73, .iload_n 2, 1), (74, .iconst 0, 1), (75, .bastore, 1), (76, .iinc 2 1, 3), (79, .goto (-15), 3), (82, .iload_n 1, 1), (83, .ireturn, 1)]
theorem tb_X5_text : ∀ q ∈ tab_X5_text, decode m_X5_text.2.1 q.1 = .ok q.2 := by decide +kernel
def tab_X5_fault : List (Nat × Instr × Nat) := [(0, .aload_n 0, 1), (1, .getfield 76, 3), (4, .ireturn, 1)]
theorem tb_X5_fault : ∀ q ∈ tab_X5_fault, decode m_X5_fault.2.1 q.1 = .ok q.2 := by decide +kernel
def tab_X5_rule : List (Nat × Instr × Nat) := [(0, .iload_n 1, 1), (1, .tableswitch 109 0 5 #[39, 47, 55, 63, 82, 101], 39), (40, .aload_n 0, 1), (41, .getfield 19, 3), (44, .getfield 89, 3), (47, .ireturn, 1), (48, .aload_n 0, 1), (49, .getfield 19, 3), (52, .getfield 92, 3), (55, .ireturn, 1), (56, .aload_n 0, 1), (57, .getfield 19, 3), (60, .getfield 95, 3), (63, .ireturn, 1), (64, .aload_n 0, 1), (65, .getfield 10, 3), (68, .aload_n 0, 1), (69, .getfield 19, 3), (72, .invokevirtual 98, 3), (75, .aload_n 0, 1), (76, .getfield 10, 3), (79, .invokevirtual 101, 3), (82, .ireturn, 1), (83, .aload_n 0, 1), (84, .getfield 10, 3), (87, .aload_n 0, 1), (88, .getfield 19, 3), (91, .invokevirtual 98, 3), (94, .aload_n 0, 1), (95, .getfield 10, 3), (98, .invokevirtual 104, 3), (101, .ireturn, 1), (102, .aload_n 0, 1), (103, .getfield 19, 3), (106, .invokevirtual 107, 3), (109, .ireturn, 1), (110, .iconst (-1), 1), (111, .ireturn, 1)]
theorem tb_X5_rule : ∀ q ∈ tab_X5_rule, decode m_X5_rule.2.1 q.1 = .ok q.2 := by decide +kernel
def tab_X5_ghost : List (Nat × Instr × Nat) := [(0, .aload_n 0, 1), (1, .getfield 19, 3), (4, .iload_n 1, 1), (5, .invokevirtual 110, 3), (8, .ifCond .ne 5, 3), (11, .iconst (-1), 1), (12, .ireturn, 1), (13, .iload_n 2, 1), (14, .tableswitch 112 0 9 #[54, 54, 54, 54, 54, 64, 73, 82, 91, 103], 54), (68, .aload_n 0, 1), (69, .getfield 19, 3), (72, .iload_n 1, 1), (73, .iload_n 2, 1), (74, .invokevirtual 114, 3), (77, .ireturn, 1), (78, .aload_n 0, 1), (79, .getfield 19, 3), (82, .iload_n 1, 1), (83, .invokevirtual 118, 3), (86, .ireturn, 1), (87, .aload_n 0, 1), (88, .getfield 19, 3), (91, .iload_n 1, 1), (92, .invokevirtual 122, 3), (95, .ireturn, 1), (96, .aload_n 0, 1), (97, .getfield 19, 3), (100, .iload_n 1, 1), (101, .invokevirtual 125, 3), (104, .ireturn, 1), (105, .aload_n 0, 1), (106, .getfield 19, 3), (109, .iload_n 1, 1), (110, .invokevirtual 118, 3), (113, .bipush 6, 2), (115, .irem, 1), (116, .ireturn, 1), (117, .aload_n 0, 1), (118, .getfield 19, 3), (121, .iload_n 1, 1), (122, .invokevirtual 128, 3), (125, .ireturn, 1), (126, .iconst (-1), 1), (127, .ireturn, 1)]
theorem tb_X5_ghost : ∀ q ∈ tab_X5_ghost, decode m_X5_ghost.2.1 q.1 = .ok q.2 := by decide +kernel
def tab_X5_clerk : List (Nat × Instr × Nat) := [(0, .aload_n 0, 1), (1, .getfield 19, 3), (4, .iload_n 1, 1), (5, .invokevirtual 131, 3), (8, .ifCond .eq 12, 3), (11, .iload_n 2, 1), (12, .iconst 0, 1), (13, .iconst 1, 1), (14, .invokestatic 58, 3), (17, .ifCond .ne 5, 3), (20, .iconst (-1), 1), (21, .ireturn, 1), (22, .iload_n 2, 1), (23, .ifCond .ne 15, 3), (26, .aload_n 0, 1), (27, .getfield 19, 3), (30, .getfield 134, 3), (33, .iload_n 1, 1), (34, .iaload, 1), (35, .goto 12, 3), (38, .aload_n 0, 1), (39, .getfield 19, 3), (42, .getfield 137, 3), (45, .iload_n 1, 1), (46, .iaload, 1), (47, .ireturn, 1)]
theorem tb_X5_clerk : ∀ q ∈ tab_X5_clerk, decode m_X5_clerk.2.1 q.1 = .ok q.2 := by decide +kernel
def tab_X5_alter : List (Nat × Instr × Nat) := [(0, .aload_n 0, 1), (1, .getfield 19, 3), (4, .iload_n 1, 1), (5, .invokevirtual 110, 3), (8, .ifCond .eq 11, 3), (11, .iload_n 2, 1), (12, .iload_n 3, 1), (13, .invokestatic 140, 3), (16, .ifCond .ne 5, 3), (19, .iconst (-1), 1), (20, .ireturn, 1), (21, .aload_n 0, 1), (22, .getfield 19, 3), (25, .iload_n 1, 1), (26, .iload_n 2, 1), (27, .invokevirtual 114, 3), (30, .istore 4, 2), (32, .aload_n 0, 1), (33, .getfield 19, 3), (36, .iload_n 1, 1), (37, .iload_n 2, 1), (38, .iload_n 3, 1), (39, .invokevirtual 144, 3), (42, .iload 4, 2), (44, .ireturn, 1)]
theorem tb_X5_alter : ∀ q ∈ tab_X5_alter, decode m_X5_alter.2.1 q.1 = .ok q.2 := by decide +kernel
def tab_X5_post : List (Nat × Instr × Nat) := [(0, .aload_n 0, 1), (1, .getfield 19, 3), (4, .iload_n 1, 1), (5, .invokevirtual 131, 3), (8, .ifCond .ne 5, 3), (11, .iconst (-1), 1), (12, .ireturn, 1), (13, .iload_n 2, 1), (14, .ifCond .ne 34, 3), (17, .iload_n 3, 1), (18, .invokestatic 148, 3), (21, .ifCond .eq 27, 3), (24, .aload_n 0, 1), (25, .getfield 19, 3), (28, .getfield 134, 3), (31, .iload_n 1, 1), (32, .iaload, 1), (33, .istore 4, 2), (35, .aload_n 0, 1), (36, .getfield 19, 3), (39, .getfield 134, 3), (42, .iload_n 1, 1), (43, .iload_n 3, 1), (44, .iastore, 1), (45, .iload 4, 2), (47, .ireturn, 1), (48, .iload_n 2, 1), (49, .iconst 1, 1), (50, .if_icmp .ne 36, 3), (53, .iload_n 3, 1), (54, .iconst 1, 1), (55, .iconst 3, 1), (56, .invokestatic 58, 3), (59, .ifCond .eq 27, 3), (62, .aload_n 0, 1), (63, .getfield 19, 3), (66, .getfield 137, 3), (69, .iload_n 1, 1), (70, .iaload, 1), (71, .istore 4, 2), (73, .aload_n 0, 1), (74, .getfield 19, 3), (77, .getfield 137, 3), (80, .iload_n 1, 1), (81, .iload_n 3, 1), (82, .iastore, 1), (83, .iload 4, 2), (85, .ireturn, 1), (86, .iconst (-1), 1), (87, .ireturn, 1)]
theorem tb_X5_post : ∀ q ∈ tab_X5_post, decode m_X5_post.2.1 q.1 = .ok q.2 := by decide +kernel
def tab_X5_leave : List (Nat × Instr × Nat) := [(0, .iload_n 1, 1), (1, .iconst 0, 1), (2, .iconst 3, 1), (3, .invokestatic 58, 3), (6, .ifCond .eq 31, 3), (9, .iload_n 2, 1), (10, .iconst 1, 1), (11, .bipush 99, 2), (13, .invokestatic 58, 3), (16, .ifCond .eq 21, 3), (19, .iload_n 3, 1), (20, .iconst 1, 1), (21, .bipush 99, 2), (23, .invokestatic 58, 3), (26, .ifCond .eq 11, 3), (29, .iload 4, 2), (31, .invokestatic 148, 3), (34, .ifCond .ne 5, 3), (37, .iconst (-1), 1), (38, .ireturn, 1), (39, .aload_n 0, 1), (40, .getfield 19, 3), (43, .getfield 89, 3), (46, .iconst 4, 1), (47, .if_icmp .lt 6, 3), (50, .bipush (-3), 2), (52, .ireturn, 1), (53, .aload_n 0, 1), (54, .getfield 19, 3), (57, .iload_n 1, 1), (58, .iload_n 2, 1), (59, .iload_n 3, 1), (60, .iload 4, 2), (62, .invokevirtual 151, 3), (65, .aload_n 0, 1), (66, .getfield 19, 3), (69, .getfield 89, 3), (72, .iconst 1, 1), (73, .isub, 1), (74, .ireturn, 1)]
theorem tb_X5_leave : ∀ q ∈ tab_X5_leave, decode m_X5_leave.2.1 q.1 = .ok q.2 := by decide +kernel
def tab_X5_nights : List (Nat × Instr × Nat) := [(0, .iload_n 1, 1), (1, .iconst 0, 1), (2, .bipush 30, 2), (4, .invokestatic 58, 3), (7, .ifCond .ne 5, 3), (10, .iconst (-1), 1), (11, .ireturn, 1), (12, .aload_n 0, 1), (13, .getfield 19, 3), (16, .getfield 95, 3), (19, .iload_n 1, 1), (20, .iadd, 1), (21, .sipush 999, 3), (24, .if_icmp .le 6, 3), (27, .bipush (-3), 2), (29, .ireturn, 1), (30, .aload_n 0, 1), (31, .iload_n 1, 1), (32, .invokevirtual 155, 3), (35, .istore_n 2, 1), (36, .aload_n 0, 1), (37, .getfield 19, 3), (40, .aload_n 0, 1), (41, .getfield 10, 3), (44, .iload_n 1, 1), (45, .invokevirtual 158, 3), (48, .iload_n 2, 1), (49, .ireturn, 1)]
theorem tb_X5_nights : ∀ q ∈ tab_X5_nights, decode m_X5_nights.2.1 q.1 = .ok q.2 := by decide +kernel
def tab_X5_runs : List (Nat × Instr × Nat) := [(0, .iload_n 1, 1), (1, .iconst 0, 1), (2, .bipush 60, 2), (4, .invokestatic 58, 3), (7, .ifCond .eq 12, 3), (10, .iload_n 2, 1), (11, .iconst 0, 1), (12, .iconst 3, 1), (13, .invokestatic 58, 3), (16, .ifCond .ne 5, 3), (19, .iconst (-1), 1), (20, .ireturn, 1), (21, .aload_n 0, 1), (22, .getfield 10, 3), (25, .aload_n 0, 1), (26, .getfield 19, 3), (29, .invokevirtual 98, 3), (32, .iload_n 2, 1), (33, .iconst 3, 1), (34, .if_icmp .ne 23, 3), (37, .aload_n 0, 1), (38, .getfield 10, 3), (41, .iconst 1, 1), (42, .aload_n 0, 1), (43, .getfield 19, 3), (46, .getfield 89, 3), (49, .ishl, 1), (50, .iconst 1, 1), (51, .isub, 1), (52, .iload_n 1, 1), (53, .invokevirtual 162, 3), (56, .ireturn, 1), (57, .aload_n 0, 1), (58, .getfield 10, 3), (61, .iload_n 1, 1), (62, .invokevirtual 165, 3), (65, .iload_n 2, 1), (66, .ifCond .ne 11, 3), (69, .aload_n 0, 1), (70, .getfield 10, 3), (73, .getfield 169, 3), (76, .ireturn, 1), (77, .iload_n 2, 1), (78, .iconst 1, 1), (79, .if_icmp .ne 13, 3), (82, .aload_n 0, 1), (83, .getfield 10, 3), (86, .invokevirtual 101, 3), (89, .goto 10, 3), (92, .aload_n 0, 1), (93, .getfield 10, 3), (96, .invokevirtual 104, 3), (99, .ireturn, 1)]
theorem tb_X5_runs : ∀ q ∈ tab_X5_runs, decode m_X5_runs.2.1 q.1 = .ok q.2 := by decide +kernel
def tab_X5_ahead : List (Nat × Instr × Nat) := [(0, .aload_n 0, 1), (1, .getfield 19, 3), (4, .iload_n 1, 1), (5, .invokevirtual 110, 3), (8, .ifCond .eq 22, 3), (11, .iload_n 2, 1), (12, .iconst 0, 1), (13, .bipush 60, 2), (15, .invokestatic 58, 3), (18, .ifCond .eq 12, 3), (21, .iload_n 3, 1), (22, .iconst 0, 1), (23, .iconst 1, 1), (24, .invokestatic 58, 3), (27, .ifCond .ne 5, 3), (30, .iconst (-1), 1), (31, .ireturn, 1), (32, .aload_n 0, 1), (33, .iload_n 2, 1), (34, .invokevirtual 172, 3), (37, .iload_n 3, 1), (38, .ifCond .ne 15, 3), (41, .aload_n 0, 1), (42, .getfield 10, 3), (45, .getfield 175, 3), (48, .iload_n 1, 1), (49, .iaload, 1), (50, .goto 12, 3), (53, .aload_n 0, 1), (54, .getfield 10, 3), (57, .getfield 178, 3), (60, .iload_n 1, 1), (61, .iaload, 1), (62, .ireturn, 1)]
theorem tb_X5_ahead : ∀ q ∈ tab_X5_ahead, decode m_X5_ahead.2.1 q.1 = .ok q.2 := by decide +kernel
def tab_X5_rests : List (Nat × Instr × Nat) := [(0, .aload_n 0, 1), (1, .getfield 19, 3), (4, .iload_n 1, 1), (5, .invokevirtual 110, 3), (8, .ifCond .ne 5, 3), (11, .iconst (-1), 1), (12, .ireturn, 1), (13, .aload_n 0, 1), (14, .getfield 10, 3), (17, .aload_n 0, 1), (18, .getfield 19, 3), (21, .invokevirtual 98, 3), (24, .aload_n 0, 1), (25, .getfield 10, 3), (28, .iconst 1, 1), (29, .iload_n 1, 1), (30, .ishl, 1), (31, .bipush 60, 2), (33, .invokevirtual 162, 3), (36, .ireturn, 1)]
theorem tb_X5_rests : ∀ q ∈ tab_X5_rests, decode m_X5_rests.2.1 q.1 = .ok q.2 := by decide +kernel
def tab_X5_meets : List (Nat × Instr × Nat) := [(0, .aload_n 0, 1), (1, .getfield 19, 3), (4, .iload_n 1, 1), (5, .invokevirtual 110, 3), (8, .ifCond .eq 14, 3), (11, .aload_n 0, 1), (12, .getfield 19, 3), (15, .iload_n 2, 1), (16, .invokevirtual 131, 3), (19, .ifCond .ne 5, 3), (22, .iconst (-1), 1), (23, .ireturn, 1), (24, .aload_n 0, 1), (25, .getfield 10, 3), (28, .aload_n 0, 1), (29, .getfield 19, 3), (32, .invokevirtual 98, 3), (35, .iconst 0, 1), (36, .istore_n 3, 1), (37, .iload_n 3, 1), (38, .bipush 60, 2), (40, .if_icmp .gt 51, 3), (43, .aload_n 0, 1), (44, .getfield 10, 3), (47, .getfield 178, 3), (50, .iload_n 1, 1), (51, .iaload, 1), (52, .ifCond .le 26, 3), (55, .aload_n 0, 1), (56, .getfield 10, 3), (59, .getfield 175, 3), (62, .iload_n 1, 1), (63, .iaload, 1), (64, .aload_n 0, 1), (65, .getfield 10, 3), (68, .getfield 180, 3), (71, .iload_n 2, 1), (72, .iaload, 1), (73, .if_icmp .ne 5, 3), (76, .iload_n 3, 1), (77, .ireturn, 1), (78, .aload_n 0, 1), (79, .getfield 10, 3), (82, .invokevirtual 181, 3), (85, .iinc 3 1, 3), (88, .goto (-51), 3), (91, .bipush (-4), 2), (93, .ireturn, 1)]
theorem tb_X5_meets : ∀ q ∈ tab_X5_meets, decode m_X5_meets.2.1 q.1 = .ok q.2 := by decide +kernel
def tab_X5_harm : List (Nat × Instr × Nat) := [(0, .iload_n 1, 1), (1, .invokestatic 148, 3), (4, .ifCond .eq 13, 3), (7, .iload_n 2, 1), (8, .iconst 0, 1), (9, .bipush 60, 2), (11, .invokestatic 58, 3), (14, .ifCond .ne 5, 3), (17, .iconst (-1), 1), (18, .ireturn, 1), (19, .aload_n 0, 1), (20, .iload_n 2, 1), (21, .invokevirtual 172, 3), (24, .aload_n 0, 1), (25, .getfield 10, 3), (28, .getfield 184, 3), (31, .iload_n 1, 1), (32, .iaload, 1), (33, .ireturn, 1)]
theorem tb_X5_harm : ∀ q ∈ tab_X5_harm, decode m_X5_harm.2.1 q.1 = .ok q.2 := by decide +kernel
def tab_X5_best : List (Nat × Instr × Nat) := [(0, .iload_n 1, 1), (1, .iconst 0, 1), (2, .bipush 20, 2), (4, .invokestatic 58, 3), (7, .ifCond .eq 21, 3), (10, .iload_n 2, 1), (11, .ifCond .eq 19, 3), (14, .aload_n 0, 1), (15, .getfield 19, 3), (18, .iload_n 2, 1), (19, .bipush 10, 2), (21, .isub, 1), (22, .invokevirtual 131, 3), (25, .ifCond .ne 5, 3), (28, .iconst (-1), 1), (29, .ireturn, 1), (30, .bipush 6, 2), (32, .aload_n 0, 1), (33, .getfield 19, 3), (36, .getfield 92, 3), (39, .invokestatic 187, 3), (42, .istore_n 3, 1), (43, .iconst 0, 1), (44, .istore 4, 2), (46, .aload_n 0, 1), (47, .iconst 0, 1), (48, .iload_n 1, 1), (49, .invokevirtual 190, 3), (52, .istore 5, 2), (54, .iconst 1, 1), (55, .istore 6, 2), (57, .iload 6, 2), (59, .iload_n 3, 1), (60, .if_icmp .ge 33, 3), (63, .aload_n 0, 1), (64, .iload 6, 2), (66, .iload_n 1, 1), (67, .invokevirtual 190, 3), (70, .istore 7, 2), (72, .iload 7, 2), (74, .iload 5, 2), (76, .if_icmp .ge 11, 3), (79, .iload 7, 2), (81, .istore 5, 2), (83, .iload 6, 2), (85, .istore 4, 2), (87, .iinc 6 1, 3), (90, .goto (-33), 3), (93, .iload_n 2, 1), (94, .ifCond .ne 8, 3), (97, .iload 5, 2), (99, .goto 13, 3), (102, .aload_n 0, 1), (103, .iload 4, 2), (105, .iload_n 2, 1), (106, .bipush 10, 2), (108, .isub, 1), (109, .invokevirtual 193, 3), (112, .ireturn, 1)]
theorem tb_X5_best : ∀ q ∈ tab_X5_best, decode m_X5_best.2.1 q.1 = .ok q.2 := by decide +kernel
def tab_X5_learn : List (Nat × Instr × Nat) := [(0, .iload_n 1, 1), (1, .iconst 0, 1), (2, .bipush 20, 2), (4, .invokestatic 58, 3), (7, .ifCond .eq 12, 3), (10, .iload_n 2, 1), (11, .iconst 0, 1), (12, .iconst 1, 1), (13, .invokestatic 58, 3), (16, .ifCond .ne 5, 3), (19, .iconst (-1), 1), (20, .ireturn, 1), (21, .bipush (-4), 2), (23, .istore_n 3, 1), (24, .aload_n 0, 1), (25, .iload_n 1, 1), (26, .invokevirtual 155, 3), (29, .istore 4, 2), (31, .iconst 0, 1), (32, .istore 5, 2), (34, .iload 5, 2), (36, .aload_n 0, 1), (37, .getfield 19, 3), (40, .getfield 92, 3), (43, .if_icmp .ge 80, 3), (46, .aload_n 0, 1), (47, .getfield 19, 3), (50, .getfield 137, 3), (53, .iload 5, 2), (55, .iaload, 1), (56, .iconst 3, 1), (57, .if_icmp .ge 60, 3), (60, .aload_n 0, 1), (61, .getfield 10, 3), (64, .aload_n 0, 1), (65, .getfield 19, 3), (68, .invokevirtual 98, 3), (71, .aload_n 0, 1), (72, .getfield 10, 3), (75, .getfield 196, 3), (78, .iload 5, 2), (80, .dup2, 1), (81, .iaload, 1), (82, .iconst 1, 1), (83, .iadd, 1), (84, .iastore, 1), (85, .aload_n 0, 1), (86, .getfield 10, 3), (89, .iload_n 1, 1), (90, .invokevirtual 165, 3), (93, .aload_n 0, 1), (94, .getfield 10, 3), (97, .getfield 169, 3), (100, .iload 4, 2), (102, .if_icmp .ge 15, 3), (105, .aload_n 0, 1), (106, .getfield 10, 3), (109, .getfield 169, 3), (112, .istore 4, 2), (114, .iload 5, 2), (116, .istore_n 3, 1), (117, .iinc 5 1, 3), (120, .goto (-86), 3), (123, .iload_n 3, 1), (124, .bipush (-4), 2), (126, .if_icmp .eq 7, 3), (129, .iload_n 2, 1), (130, .ifCond .ne 7, 3), (133, .iload_n 3, 1), (134, .goto 5, 3), (137, .iload 4, 2), (139, .ireturn, 1)]
theorem tb_X5_learn : ∀ q ∈ tab_X5_learn, decode m_X5_learn.2.1 q.1 = .ok q.2 := by decide +kernel
def tab_X5_quiet : List (Nat × Instr × Nat) := [(0, .iload_n 1, 1), (1, .iconst 0, 1), (2, .bipush 60, 2), (4, .invokestatic 58, 3), (7, .ifCond .eq 12, 3), (10, .iload_n 2, 1), (11, .iconst 0, 1), (12, .iconst 1, 1), (13, .invokestatic 58, 3), (16, .ifCond .ne 5, 3), (19, .iconst (-1), 1), (20, .ireturn, 1), (21, .aload_n 0, 1), (22, .iload_n 1, 1), (23, .invokevirtual 172, 3), (26, .iconst 0, 1), (27, .istore_n 3, 1), (28, .iconst 1, 1), (29, .istore 4, 2), (31, .iload 4, 2), (33, .bipush 6, 2), (35, .if_icmp .ge 34, 3), (38, .aload_n 0, 1), (39, .getfield 10, 3), (42, .getfield 184, 3), (45, .iload 4, 2), (47, .iaload, 1), (48, .aload_n 0, 1), (49, .getfield 10, 3), (52, .getfield 184, 3), (55, .iload_n 3, 1), (56, .iaload, 1), (57, .if_icmp .ge 6, 3), (60, .iload 4, 2), (62, .istore_n 3, 1), (63, .iinc 4 1, 3), (66, .goto (-35), 3), (69, .iload_n 2, 1), (70, .ifCond .ne 7, 3), (73, .iload_n 3, 1), (74, .goto 12, 3), (77, .aload_n 0, 1), (78, .getfield 10, 3), (81, .getfield 184, 3), (84, .iload_n 3, 1), (85, .iaload, 1), (86, .ireturn, 1)]
theorem tb_X5_quiet : ∀ q ∈ tab_X5_quiet, decode m_X5_quiet.2.1 q.1 = .ok q.2 := by decide +kernel
def tab_X5_better : List (Nat × Instr × Nat) := [(0, .aload_n 0, 1), (1, .getfield 19, 3), (4, .iload_n 1, 1), (5, .invokevirtual 110, 3), (8, .ifCond .eq 22, 3), (11, .iload_n 2, 1), (12, .iconst 0, 1), (13, .bipush 20, 2), (15, .invokestatic 58, 3), (18, .ifCond .eq 12, 3), (21, .iload_n 3, 1), (22, .iconst 0, 1), (23, .iconst 1, 1), (24, .invokestatic 58, 3), (27, .ifCond .ne 5, 3), (30, .iconst (-1), 1), (31, .ireturn, 1), (32, .iconst 1, 1), (33, .istore 4, 2), (35, .aload_n 0, 1), (36, .iload_n 1, 1), (37, .iconst 1, 1), (38, .iload_n 2, 1), (39, .invokevirtual 197, 3), (42, .istore 5, 2), (44, .iconst 2, 1), (45, .istore 6, 2), (47, .iload 6, 2), (49, .bipush 99, 2), (51, .if_icmp .gt 34, 3), (54, .aload_n 0, 1), (55, .iload_n 1, 1), (56, .iload 6, 2), (58, .iload_n 2, 1), (59, .invokevirtual 197, 3), (62, .istore 7, 2), (64, .iload 7, 2), (66, .iload 5, 2), (68, .if_icmp .ge 11, 3), (71, .iload 7, 2), (73, .istore 5, 2), (75, .iload 6, 2), (77, .istore 4, 2), (79, .iinc 6 1, 3), (82, .goto (-35), 3), (85, .iload_n 3, 1), (86, .ifCond .ne 8, 3), (89, .iload 4, 2), (91, .goto 5, 3), (94, .iload 5, 2), (96, .ireturn, 1)]
theorem tb_X5_better : ∀ q ∈ tab_X5_better, decode m_X5_better.2.1 q.1 = .ok q.2 := by decide +kernel
def tab_X5_from : List (Nat × Instr × Nat) := [(0, .aload_n 0, 1), (1, .getfield 19, 3), (4, .iload_n 1, 1), (5, .invokevirtual 110, 3), (8, .ifCond .eq 12, 3), (11, .iload_n 2, 1), (12, .iconst 0, 1), (13, .iconst 1, 1), (14, .invokestatic 58, 3), (17, .ifCond .ne 5, 3), (20, .iconst (-1), 1), (21, .ireturn, 1), (22, .bipush (-4), 2), (24, .istore_n 3, 1), (25, .bipush 61, 2), (27, .istore 4, 2), (29, .iconst 0, 1), (30, .istore 5, 2), (32, .iload 5, 2), (34, .bipush 6, 2), (36, .if_icmp .ge 66, 3), (39, .aload_n 0, 1), (40, .getfield 10, 3), (43, .aload_n 0, 1), (44, .getfield 19, 3), (47, .invokevirtual 98, 3), (50, .aload_n 0, 1), (51, .getfield 10, 3), (54, .getfield 175, 3), (57, .iload_n 1, 1), (58, .iload 5, 2), (60, .iastore, 1), (61, .aload_n 0, 1), (62, .getfield 10, 3), (65, .iconst 1, 1), (66, .iload_n 1, 1), (67, .ishl, 1), (68, .bipush 60, 2), (70, .invokevirtual 162, 3), (73, .istore 6, 2), (75, .iload 6, 2), (77, .bipush (-4), 2), (79, .if_icmp .eq 17, 3), (82, .iload 6, 2), (84, .iload 4, 2), (86, .if_icmp .ge 10, 3), (89, .iload 6, 2), (91, .istore 4, 2), (93, .iload 5, 2), (95, .istore_n 3, 1), (96, .iinc 5 1, 3), (99, .goto (-67), 3), (102, .iload_n 3, 1), (103, .bipush (-4), 2), (105, .if_icmp .eq 7, 3), (108, .iload_n 2, 1), (109, .ifCond .ne 7, 3), (112, .iload_n 3, 1), (113, .goto 5, 3), (116, .iload 4, 2), (118, .ireturn, 1)]
theorem tb_X5_from : ∀ q ∈ tab_X5_from, decode m_X5_from.2.1 q.1 = .ok q.2 := by decide +kernel
def tab_X5_luck : List (Nat × Instr × Nat) := [(0, .iload_n 1, 1), (1, .iconst 0, 1), (2, .bipush 10, 2), (4, .invokestatic 58, 3), (7, .ifCond .eq 34, 3), (10, .aload_n 0, 1), (11, .getfield 19, 3), (14, .iload_n 2, 1), (15, .invokevirtual 110, 3), (18, .ifCond .eq 23, 3), (21, .iload_n 3, 1), (22, .iconst 0, 1), (23, .bipush 60, 2), (25, .invokestatic 58, 3), (28, .ifCond .eq 13, 3), (31, .iload 4, 2), (33, .iconst 0, 1), (34, .iconst 1, 1), (35, .invokestatic 58, 3), (38, .ifCond .ne 7, 3), (41, .ldc2_w 201, 3), (44, .lreturn, 1), (45, .lconst 0, 1), (46, .lstore 5, 2), (48, .iconst 0, 1), (49, .istore 7, 2), (51, .iload 7, 2), (53, .iconst 1, 1), (54, .aload_n 0, 1), (55, .getfield 19, 3), (58, .getfield 92, 3), (61, .ishl, 1), (62, .if_icmp .ge 41, 3), (65, .aload_n 0, 1), (66, .iload 7, 2), (68, .iload_n 3, 1), (69, .invokevirtual 203, 3), (72, .aload_n 0, 1), (73, .getfield 10, 3), (76, .getfield 178, 3), (79, .iload_n 2, 1), (80, .iaload, 1), (81, .ifCond .ne 16, 3), (84, .lload 5, 2), (86, .aload_n 0, 1), (87, .iload 7, 2), (89, .iload_n 1, 1), (90, .invokevirtual 207, 3), (93, .i2l, 1), (94, .ladd, 1), (95, .lstore 5, 2), (97, .iinc 7 1, 3), (100, .goto (-49), 3), (103, .lload 5, 2), (105, .bipush 10, 2), (107, .aload_n 0, 1), (108, .getfield 19, 3), (111, .getfield 92, 3), (114, .invokestatic 187, 3), (117, .i2l, 1), (118, .iload 4, 2), (120, .invokestatic 210, 3), (123, .lreturn, 1)]
theorem tb_X5_luck : ∀ q ∈ tab_X5_luck, decode m_X5_luck.2.1 q.1 = .ok q.2 := by decide +kernel
def tab_X5_mean : List (Nat × Instr × Nat) := [(0, .iload_n 1, 1), (1, .iconst 0, 1), (2, .bipush 10, 2), (4, .invokestatic 58, 3), (7, .ifCond .eq 22, 3), (10, .iload_n 2, 1), (11, .iconst 0, 1), (12, .bipush 60, 2), (14, .invokestatic 58, 3), (17, .ifCond .eq 12, 3), (20, .iload_n 3, 1), (21, .iconst 0, 1), (22, .iconst 1, 1), (23, .invokestatic 58, 3), (26, .ifCond .ne 7, 3), (29, .ldc2_w 201, 3), (32, .lreturn, 1), (33, .lconst 0, 1), (34, .lstore 4, 2), (36, .iconst 0, 1), (37, .istore 6, 2), (39, .iload 6, 2), (41, .iconst 1, 1), (42, .aload_n 0, 1), (43, .getfield 19, 3), (46, .getfield 92, 3), (49, .ishl, 1), (50, .if_icmp .ge 38, 3), (53, .aload_n 0, 1), (54, .iload 6, 2), (56, .iload_n 2, 1), (57, .invokevirtual 203, 3), (60, .lload 4, 2), (62, .aload_n 0, 1), (63, .iload 6, 2), (65, .iload_n 1, 1), (66, .invokevirtual 207, 3), (69, .i2l, 1), (70, .aload_n 0, 1), (71, .getfield 10, 3), (74, .getfield 169, 3), (77, .i2l, 1), (78, .lmul, 1), (79, .ladd, 1), (80, .lstore 4, 2), (82, .iinc 6 1, 3), (85, .goto (-46), 3), (88, .lload 4, 2), (90, .bipush 10, 2), (92, .aload_n 0, 1), (93, .getfield 19, 3), (96, .getfield 92, 3), (99, .invokestatic 187, 3), (102, .i2l, 1), (103, .iload_n 3, 1), (104, .invokestatic 210, 3), (107, .lreturn, 1)]
theorem tb_X5_mean : ∀ q ∈ tab_X5_mean, decode m_X5_mean.2.1 q.1 = .ok q.2 := by decide +kernel
def tab_X5_see : List (Nat × Instr × Nat) := [(0, .aload_n 0, 1), (1, .getfield 19, 3), (4, .iload_n 1, 1), (5, .invokevirtual 110, 3), (8, .ifCond .eq 20, 3), (11, .iload_n 2, 1), (12, .iconst 0, 1), (13, .bipush 20, 2), (15, .invokestatic 58, 3), (18, .ifCond .eq 10, 3), (21, .iload_n 3, 1), (22, .invokestatic 148, 3), (25, .ifCond .ne 5, 3), (28, .iconst (-1), 1), (29, .ireturn, 1), (30, .aload_n 0, 1), (31, .getfield 19, 3), (34, .getfield 214, 3), (37, .bipush 6, 2), (39, .if_icmp .lt 6, 3), (42, .bipush (-3), 2), (44, .ireturn, 1), (45, .aload_n 0, 1), (46, .getfield 19, 3), (49, .getfield 217, 3), (52, .aload_n 0, 1), (53, .getfield 19, 3), (56, .getfield 214, 3), (59, .iload_n 1, 1), (60, .iastore, 1), (61, .aload_n 0, 1), (62, .getfield 19, 3), (65, .getfield 220, 3), (68, .aload_n 0, 1), (69, .getfield 19, 3), (72, .getfield 214, 3), (75, .iload_n 2, 1), (76, .iastore, 1), (77, .aload_n 0, 1), (78, .getfield 19, 3), (81, .getfield 223, 3), (84, .aload_n 0, 1), (85, .getfield 19, 3), (88, .getfield 214, 3), (91, .iload_n 3, 1), (92, .iastore, 1), (93, .aload_n 0, 1), (94, .getfield 19, 3), (97, .dup, 1), (98, .getfield 214, 3), (101, .iconst 1, 1), (102, .iadd, 1), (103, .putfield 214, 3), (106, .aload_n 0, 1), (107, .getfield 19, 3), (110, .getfield 214, 3), (113, .ireturn, 1)]
theorem tb_X5_see : ∀ q ∈ tab_X5_see, decode m_X5_see.2.1 q.1 = .ok q.2 := by decide +kernel
def tab_X5_forget : List (Nat × Instr × Nat) := [(0, .iload_n 1, 1), (1, .iconst 0, 1), (2, .aload_n 0, 1), (3, .getfield 19, 3), (6, .getfield 214, 3), (9, .invokestatic 58, 3), (12, .ifCond .ne 5, 3), (15, .iconst (-1), 1), (16, .ireturn, 1), (17, .aload_n 0, 1), (18, .getfield 19, 3), (21, .getfield 214, 3), (24, .istore_n 2, 1), (25, .aload_n 0, 1), (26, .getfield 19, 3), (29, .iload_n 1, 1), (30, .putfield 214, 3), (33, .iload_n 2, 1), (34, .ireturn, 1)]
theorem tb_X5_forget : ∀ q ∈ tab_X5_forget, decode m_X5_forget.2.1 q.1 = .ok q.2 := by decide +kernel
def tab_X5_kinds : List (Nat × Instr × Nat) := [(0, .aload_n 0, 1), (1, .getfield 19, 3), (4, .iload_n 1, 1), (5, .invokevirtual 110, 3), (8, .ifCond .ne 5, 3), (11, .iconst (-1), 1), (12, .ireturn, 1), (13, .iconst 0, 1), (14, .istore_n 2, 1), (15, .iconst 0, 1), (16, .istore_n 3, 1), (17, .iload_n 3, 1), (18, .iconst 3, 1), (19, .if_icmp .gt 33, 3), (22, .aload_n 0, 1), (23, .iload_n 1, 1), (24, .iload_n 3, 1), (25, .aload_n 0, 1), (26, .getfield 19, 3), (29, .getfield 226, 3), (32, .iload_n 1, 1), (33, .iaload, 1), (34, .invokevirtual 229, 3), (37, .ifCond .eq 9, 3), (40, .iload_n 2, 1), (41, .iconst 1, 1), (42, .iload_n 3, 1), (43, .ishl, 1), (44, .ior, 1), (45, .istore_n 2, 1), (46, .iinc 3 1, 3), (49, .goto (-32), 3), (52, .iload_n 2, 1), (53, .ireturn, 1)]
theorem tb_X5_kinds : ∀ q ∈ tab_X5_kinds, decode m_X5_kinds.2.1 q.1 = .ok q.2 := by decide +kernel
def tab_X5_second : List (Nat × Instr × Nat) := [(0, .aload_n 0, 1), (1, .getfield 19, 3), (4, .iload_n 1, 1), (5, .invokevirtual 110, 3), (8, .ifCond .eq 12, 3), (11, .iload_n 2, 1), (12, .iconst 0, 1), (13, .iconst 2, 1), (14, .invokestatic 58, 3), (17, .ifCond .ne 5, 3), (20, .iconst (-1), 1), (21, .ireturn, 1), (22, .iconst 0, 1), (23, .istore_n 3, 1), (24, .bipush (-4), 2), (26, .istore 4, 2), (28, .bipush (-4), 2), (30, .istore 5, 2), (32, .iconst 1, 1), (33, .istore 6, 2), (35, .iload 6, 2), (37, .bipush 99, 2), (39, .if_icmp .gt 46, 3), (42, .aload_n 0, 1), (43, .iload_n 1, 1), (44, .aload_n 0, 1), (45, .getfield 19, 3), (48, .getfield 232, 3), (51, .iload_n 1, 1), (52, .iaload, 1), (53, .iload 6, 2), (55, .invokevirtual 229, 3), (58, .ifCond .eq 21, 3), (61, .iinc 3 1, 3), (64, .iload 6, 2), (66, .istore 5, 2), (68, .iload 4, 2), (70, .bipush (-4), 2), (72, .if_icmp .ne 7, 3), (75, .iload 6, 2), (77, .istore 4, 2), (79, .iinc 6 1, 3), (82, .goto (-47), 3), (85, .iload_n 2, 1), (86, .ifCond .ne 5, 3), (89, .iload_n 3, 1), (90, .ireturn, 1), (91, .iload_n 2, 1), (92, .iconst 1, 1), (93, .if_icmp .ne 8, 3), (96, .iload 4, 2), (98, .goto 5, 3), (101, .iload 5, 2), (103, .ireturn, 1)]
theorem tb_X5_second : ∀ q ∈ tab_X5_second, decode m_X5_second.2.1 q.1 = .ok q.2 := by decide +kernel
def tab_X5_look : List (Nat × Instr × Nat) := [(0, .aload_n 0, 1), (1, .getfield 19, 3), (4, .iload_n 1, 1), (5, .invokevirtual 110, 3), (8, .ifCond .eq 12, 3), (11, .iload_n 2, 1), (12, .iconst 0, 1), (13, .iconst 1, 1), (14, .invokestatic 58, 3), (17, .ifCond .ne 5, 3), (20, .iconst (-1), 1), (21, .ireturn, 1), (22, .aload_n 0, 1), (23, .iload_n 1, 1), (24, .invokevirtual 235, 3), (27, .istore_n 3, 1), (28, .bipush (-4), 2), (30, .istore 4, 2), (32, .iconst 0, 1), (33, .istore 5, 2), (35, .iload 5, 2), (37, .bipush 20, 2), (39, .if_icmp .gt 30, 3), (42, .aload_n 0, 1), (43, .iload 5, 2), (45, .invokevirtual 238, 3), (48, .istore 6, 2), (50, .iload 6, 2), (52, .iload_n 3, 1), (53, .if_icmp .ge 10, 3), (56, .iload 6, 2), (58, .istore_n 3, 1), (59, .iload 5, 2), (61, .istore 4, 2), (63, .iinc 5 1, 3), (66, .goto (-31), 3), (69, .iload 4, 2), (71, .bipush (-4), 2), (73, .if_icmp .eq 7, 3), (76, .iload_n 2, 1), (77, .ifCond .ne 8, 3), (80, .iload 4, 2), (82, .goto 4, 3), (85, .iload_n 3, 1), (86, .ireturn, 1)]
theorem tb_X5_look : ∀ q ∈ tab_X5_look, decode m_X5_look.2.1 q.1 = .ok q.2 := by decide +kernel
def tab_X5_drift : List (Nat × Instr × Nat) := [(0, .iload_n 2, 1), (1, .iconst 1, 1), (2, .bipush 60, 2), (4, .invokestatic 58, 3), (7, .ifCond .eq 12, 3), (10, .iload_n 3, 1), (11, .iconst 0, 1), (12, .iconst 1, 1), (13, .invokestatic 58, 3), (16, .ifCond .ne 5, 3), (19, .iconst (-1), 1), (20, .ireturn, 1), (21, .aload_n 0, 1), (22, .getfield 19, 3), (25, .getfield 92, 3), (28, .ifCond .gt 6, 3), (31, .bipush (-2), 2), (33, .ireturn, 1), (34, .aload_n 0, 1), (35, .getfield 10, 3), (38, .aload_n 0, 1), (39, .getfield 19, 3), (42, .invokevirtual 98, 3), (45, .iload_n 1, 1), (46, .istore 4, 2), (48, .iconst 0, 1), (49, .istore 5, 2), (51, .iload 5, 2), (53, .iload_n 2, 1), (54, .if_icmp .ge 64, 3), (57, .iload 4, 2), (59, .ldc 241, 2), (61, .imul, 1), (62, .sipush 12345, 3), (65, .iadd, 1), (66, .istore 4, 2), (68, .iload 4, 2), (70, .bipush 16, 2), (72, .iushr, 1), (73, .sipush 32767, 3), (76, .iand, 1), (77, .istore 6, 2), (79, .aload_n 0, 1), (80, .getfield 10, 3), (83, .getfield 180, 3), (86, .iload 6, 2), (88, .aload_n 0, 1), (89, .getfield 19, 3), (92, .getfield 92, 3), (95, .irem, 1), (96, .iload 6, 2), (98, .bipush 8, 2), (100, .idiv, 1), (101, .bipush 6, 2), (103, .irem, 1), (104, .iastore, 1), (105, .aload_n 0, 1), (106, .getfield 10, 3), (109, .invokevirtual 181, 3), (112, .iinc 5 1, 3), (115, .goto (-64), 3), (118, .iload_n 3, 1), (119, .ifCond .ne 13, 3), (122, .aload_n 0, 1), (123, .getfield 10, 3), (126, .getfield 169, 3), (129, .goto 10, 3), (132, .aload_n 0, 1), (133, .getfield 10, 3), (136, .invokevirtual 101, 3), (139, .ireturn, 1)]
theorem tb_X5_drift : ∀ q ∈ tab_X5_drift, decode m_X5_drift.2.1 q.1 = .ok q.2 := by decide +kernel
def tab_X5_keep : List (Nat × Instr × Nat) := [(0, .iload_n 1, 1), (1, .iconst 0, 1), (2, .iconst 1, 1), (3, .invokestatic 58, 3), (6, .ifCond .ne 5, 3), (9, .iconst (-1), 1), (10, .ireturn, 1), (11, .aload_n 0, 1), (12, .getfield 43, 3), (15, .iload_n 1, 1), (16, .baload, 1), (17, .ifCond .eq 7, 3), (20, .iconst 1, 1), (21, .goto 4, 3), (24, .iconst 0, 1), (25, .istore_n 2, 1), (26, .aload_n 0, 1), (27, .getfield 39, 3), (30, .iload_n 1, 1), (31, .aaload, 1), (32, .aload_n 0, 1), (33, .getfield 19, 3), (36, .invokevirtual 85, 3), (39, .aload_n 0, 1), (40, .getfield 43, 3), (43, .iload_n 1, 1), (44, .iconst 1, 1), (45, .bastore, 1), (46, .iload_n 2, 1), (47, .ireturn, 1)]
theorem tb_X5_keep : ∀ q ∈ tab_X5_keep, decode m_X5_keep.2.1 q.1 = .ok q.2 := by decide +kernel
def tab_X5_back : List (Nat × Instr × Nat) := [(0, .iload_n 1, 1), (1, .iconst 0, 1), (2, .iconst 1, 1), (3, .invokestatic 58, 3), (6, .ifCond .ne 5, 3), (9, .iconst (-1), 1), (10, .ireturn, 1), (11, .aload_n 0, 1), (12, .getfield 43, 3), (15, .iload_n 1, 1), (16, .baload, 1), (17, .ifCond .ne 6, 3), (20, .bipush (-2), 2), (22, .ireturn, 1), (23, .aload_n 0, 1), (24, .getfield 19, 3), (27, .aload_n 0, 1), (28, .getfield 39, 3), (31, .iload_n 1, 1), (32, .aaload, 1), (33, .invokevirtual 85, 3), (36, .aload_n 0, 1), (37, .getfield 19, 3), (40, .getfield 95, 3), (43, .ireturn, 1)]
theorem tb_X5_back : ∀ q ∈ tab_X5_back, decode m_X5_back.2.1 q.1 = .ok q.2 := by decide +kernel
def tab_X5_sheet : List (Nat × Instr × Nat) := [(0, .aload_n 0, 1), (1, .getfield 50, 3), (4, .iload_n 1, 1), (5, .invokevirtual 242, 3), (8, .ifCond .eq 20, 3), (11, .aload_n 0, 1), (12, .getfield 50, 3), (15, .iload_n 2, 1), (16, .invokevirtual 245, 3), (19, .ifCond .eq 9, 3), (22, .iload_n 3, 1), (23, .bipush 40, 2), (25, .if_icmp .le 5, 3), (28, .iconst (-1), 1), (29, .ireturn, 1), (30, .iload_n 3, 1), (31, .ifCond .ge 6, 3), (34, .bipush (-14), 2), (36, .ireturn, 1), (37, .aload_n 0, 1), (38, .getfield 50, 3), (41, .iload_n 1, 1), (42, .iload_n 2, 1), (43, .iload_n 3, 1), (44, .invokevirtual 248, 3), (47, .iconst 1, 1), (48, .ireturn, 1)]
theorem tb_X5_sheet : ∀ q ∈ tab_X5_sheet, decode m_X5_sheet.2.1 q.1 = .ok q.2 := by decide +kernel
def tab_X5_lay : List (Nat × Instr × Nat) := [(0, .aload_n 0, 1), (1, .getfield 50, 3), (4, .iload_n 1, 1), (5, .invokevirtual 242, 3), (8, .ifCond .ne 5, 3), (11, .iconst (-1), 1), (12, .ireturn, 1), (13, .aload_n 0, 1), (14, .getfield 50, 3), (17, .iload_n 1, 1), (18, .aload_n 0, 1), (19, .getfield 50, 3), (22, .getfield 251, 3), (25, .iload_n 1, 1), (26, .iaload, 1), (27, .iload_n 2, 1), (28, .invokevirtual 254, 3), (31, .istore 4, 2), (33, .iload 4, 2), (35, .ifCond .eq 9, 3), (38, .bipush (-10), 2), (40, .iload 4, 2), (42, .isub, 1), (43, .ireturn, 1), (44, .aload_n 0, 1), (45, .getfield 50, 3), (48, .iload_n 1, 1), (49, .iload_n 2, 1), (50, .iload_n 3, 1), (51, .invokevirtual 257, 3), (54, .iconst 1, 1), (55, .ireturn, 1)]
theorem tb_X5_lay : ∀ q ∈ tab_X5_lay, decode m_X5_lay.2.1 q.1 = .ok q.2 := by decide +kernel
def tab_X5_read : List (Nat × Instr × Nat) := [(0, .aload_n 0, 1), (1, .getfield 50, 3), (4, .iload_n 1, 1), (5, .invokevirtual 242, 3), (8, .ifCond .eq 25, 3), (11, .aload_n 0, 1), (12, .getfield 50, 3), (15, .iload_n 2, 1), (16, .invokevirtual 245, 3), (19, .ifCond .eq 14, 3), (22, .iload 4, 2), (24, .iconst 0, 1), (25, .bipush 20, 2), (27, .invokestatic 58, 3), (30, .ifCond .ne 5, 3), (33, .iconst (-1), 1), (34, .ireturn, 1), (35, .aload_n 0, 1), (36, .getfield 10, 3), (39, .aload_n 0, 1), (40, .getfield 19, 3), (43, .invokevirtual 98, 3), (46, .iconst 0, 1), (47, .istore 5, 2), (49, .iconst 0, 1), (50, .istore 6, 2), (52, .iconst 0, 1), (53, .istore 7, 2), (55, .iload 7, 2), (57, .iload 4, 2), (59, .if_icmp .ge 128, 3), (62, .iload_n 3, 1), (63, .iconst 2, 1), (64, .iload 7, 2), (66, .imul, 1), (67, .iadd, 1), (68, .istore 8, 2), (70, .aload_n 0, 1), (71, .getfield 50, 3), (74, .iload_n 1, 1), (75, .iload_n 2, 1), (76, .iload 8, 2), (78, .invokevirtual 260, 3), (81, .istore 6, 2), (83, .iload 6, 2), (85, .ifCond .eq 6, 3), (88, .goto 99, 3), (91, .aload_n 0, 1), (92, .getfield 50, 3), (95, .iload_n 1, 1), (96, .iload 8, 2), (98, .invokevirtual 263, 3), (101, .istore 9, 2), (103, .aload_n 0, 1), (104, .getfield 50, 3), (107, .iload_n 1, 1), (108, .iload 8, 2), (110, .iconst 1, 1), (111, .iadd, 1), (112, .invokevirtual 263, 3), (115, .istore 10, 2), (117, .aload_n 0, 1), (118, .getfield 19, 3), (121, .iload 9, 2), (123, .invokevirtual 131, 3), (126, .ifCond .eq 27, 3), (129, .iload 10, 2), (131, .invokestatic 148, 3), (134, .ifCond .eq 19, 3), (137, .aload_n 0, 1), (138, .getfield 19, 3), (141, .getfield 95, 3), (144, .iload 7, 2), (146, .iadd, 1), (147, .sipush 999, 3), (150, .if_icmp .lt 9, 3), (153, .bipush (-20), 2), (155, .iload 7, 2), (157, .isub, 1), (158, .ireturn, 1), (159, .aload_n 0, 1), (160, .getfield 10, 3), (163, .getfield 180, 3), (166, .iload 9, 2), (168, .iload 10, 2), (170, .iastore, 1), (171, .aload_n 0, 1), (172, .getfield 10, 3), (175, .invokevirtual 181, 3), (178, .iinc 5 1, 3), (181, .iinc 7 1, 3), (184, .goto (-129), 3), (187, .aload_n 0, 1), (188, .getfield 19, 3), (191, .aload_n 0, 1), (192, .getfield 10, 3), (195, .iload 5, 2), (197, .invokevirtual 158, 3), (200, .aload_n 0, 1), (201, .iload 6, 2), (203, .putfield 266, 3), (206, .iload 5, 2), (208, .ireturn, 1)]
theorem tb_X5_read : ∀ q ∈ tab_X5_read, decode m_X5_read.2.1 q.1 = .ok q.2 := by decide +kernel
def tab_X5_torn : List (Nat × Instr × Nat) := [(0, .aload_n 0, 1), (1, .getfield 266, 3), (4, .ireturn, 1)]
theorem tb_X5_torn : ∀ q ∈ tab_X5_torn, decode m_X5_torn.2.1 q.1 = .ok q.2 := by decide +kernel
def tab_X5_count : List (Nat × Instr × Nat) := [(0, .iload_n 1, 1), (1, .tableswitch 115 0 4 #[35, 43, 73, 81, 107], 35), (36, .aload_n 0, 1), (37, .getfield 19, 3), (40, .getfield 214, 3), (43, .ireturn, 1), (44, .aload_n 0, 1), (45, .getfield 43, 3), (48, .iconst 0, 1), (49, .baload, 1), (50, .ifCond .eq 7, 3), (53, .iconst 1, 1), (54, .goto 4, 3), (57, .iconst 0, 1), (58, .aload_n 0, 1), (59, .getfield 43, 3), (62, .iconst 1, 1), (63, .baload, 1), (64, .ifCond .eq 7, 3), (67, .iconst 1, 1), (68, .goto 4, 3), (71, .iconst 0, 1), (72, .iadd, 1), (73, .ireturn, 1), (74, .aload_n 0, 1), (75, .getfield 26, 3), (78, .getfield 62, 3), (81, .ireturn, 1), (82, .aload_n 0, 1), (83, .getfield 50, 3), (86, .iconst 0, 1), (87, .invokevirtual 269, 3), (90, .ifCond .eq 8, 3), (93, .bipush (-4), 2), (95, .goto 12, 3), (98, .aload_n 0, 1), (99, .getfield 50, 3), (102, .getfield 272, 3), (105, .iconst 0, 1), (106, .iaload, 1), (107, .ireturn, 1), (108, .aload_n 0, 1), (109, .getfield 19, 3), (112, .invokevirtual 274, 3), (115, .ireturn, 1), (116, .iconst (-1), 1), (117, .ireturn, 1)]
theorem tb_X5_count : ∀ q ∈ tab_X5_count, decode m_X5_count.2.1 q.1 = .ok q.2 := by decide +kernel
def tab_X5_within : List (Nat × Instr × Nat) := [(0, .iload_n 0, 1), (1, .iload_n 1, 1), (2, .if_icmp .lt 12, 3), (5, .iload_n 0, 1), (6, .iload_n 2, 1), (7, .if_icmp .gt 7, 3), (10, .iconst 1, 1), (11, .goto 4, 3), (14, .iconst 0, 1), (15, .ireturn, 1)]
theorem tb_X5_within : ∀ q ∈ tab_X5_within, decode m_X5_within.2.1 q.1 = .ok q.2 := by decide +kernel
def tab_X5_isRoom : List (Nat × Instr × Nat) := [(0, .iload_n 0, 1), (1, .iconst 0, 1), (2, .iconst 5, 1), (3, .invokestatic 58, 3), (6, .ireturn, 1)]
theorem tb_X5_isRoom : ∀ q ∈ tab_X5_isRoom, decode m_X5_isRoom.2.1 q.1 = .ok q.2 := by decide +kernel
def tab_X5_mayBeTold : List (Nat × Instr × Nat) := [(0, .iload_n 0, 1), (1, .tableswitch 63 0 4 #[35, 42, 42, 50, 55], 35), (36, .iload_n 1, 1), (37, .iconst 0, 1), (38, .iconst 3, 1), (39, .invokestatic 58, 3), (42, .ireturn, 1), (43, .iload_n 1, 1), (44, .iconst 1, 1), (45, .bipush 99, 2), (47, .invokestatic 58, 3), (50, .ireturn, 1), (51, .iload_n 1, 1), (52, .invokestatic 148, 3), (55, .ireturn, 1), (56, .iload_n 1, 1), (57, .iconst 0, 1), (58, .bipush 20, 2), (60, .invokestatic 58, 3), (63, .ireturn, 1), (64, .iconst 0, 1), (65, .ireturn, 1)]
theorem tb_X5_mayBeTold : ∀ q ∈ tab_X5_mayBeTold, decode m_X5_mayBeTold.2.1 q.1 = .ok q.2 := by decide +kernel
def tab_X5_power : List (Nat × Instr × Nat) := [(0, .iconst 1, 1), (1, .istore_n 2, 1), (2, .iconst 0, 1), (3, .istore_n 3, 1), (4, .iload_n 3, 1), (5, .iload_n 1, 1), (6, .if_icmp .ge 13, 3), (9, .iload_n 2, 1), (10, .iload_n 0, 1), (11, .imul, 1), (12, .istore_n 2, 1), (13, .iinc 3 1, 3), (16, .goto (-12), 3), (19, .iload_n 2, 1), (20, .ireturn, 1)]
theorem tb_X5_power : ∀ q ∈ tab_X5_power, decode m_X5_power.2.1 q.1 = .ok q.2 := by decide +kernel
def tab_X5_lowestTerm : List (Nat × Instr × Nat) := [(0, .lload_n 0, 1), (1, .lload_n 2, 1), (2, .invokestatic 277, 3), (5, .lstore 5, 2), (7, .lload 5, 2), (9, .lconst 0, 1), (10, .lcmp, 1), (11, .ifCond .gt 5, 3), (14, .lconst 0, 1), (15, .lreturn, 1), (16, .iload 4, 2), (18, .ifCond .ne 7, 3), (21, .lload_n 0, 1), (22, .goto 4, 3), (25, .lload_n 2, 1), (26, .lload 5, 2), (28, .ldiv, 1), (29, .lreturn, 1)]
theorem tb_X5_lowestTerm : ∀ q ∈ tab_X5_lowestTerm, decode m_X5_lowestTerm.2.1 q.1 = .ok q.2 := by decide +kernel
def tab_X5_commonDivisor : List (Nat × Instr × Nat) := [(0, .lload_n 0, 1), (1, .lstore 4, 2), (3, .lload_n 2, 1), (4, .lstore 6, 2), (6, .iconst 0, 1), (7, .istore 8, 2), (9, .iload 8, 2), (11, .sipush 200, 3), (14, .if_icmp .ge 31, 3), (17, .lload 6, 2), (19, .lconst 0, 1), (20, .lcmp, 1), (21, .ifCond .eq 24, 3), (24, .lload 4, 2), (26, .lload 6, 2), (28, .lrem, 1), (29, .lstore 9, 2), (31, .lload 6, 2), (33, .lstore 4, 2), (35, .lload 9, 2), (37, .lstore 6, 2), (39, .iinc 8 1, 3), (42, .goto (-33), 3), (45, .lload 4, 2), (47, .lreturn, 1)]
theorem tb_X5_commonDivisor : ∀ q ∈ tab_X5_commonDivisor, decode m_X5_commonDivisor.2.1 q.1 = .ok q.2 := by decide +kernel
def tab_X5_answerOf : List (Nat × Instr × Nat) := [(0, .iload_n 0, 1), (1, .tableswitch 42 0 2 #[27, 31, 38], 27), (28, .iload_n 1, 1), (29, .iload_n 2, 1), (30, .iadd, 1), (31, .ireturn, 1), (32, .iload_n 1, 1), (33, .iload_n 2, 1), (34, .isub, 1), (35, .invokestatic 281, 3), (38, .ireturn, 1), (39, .iload_n 1, 1), (40, .iload_n 2, 1), (41, .imul, 1), (42, .ireturn, 1), (43, .iload_n 2, 1), (44, .ifCond .ne 7, 3), (47, .iconst 0, 1), (48, .goto 6, 3), (51, .iload_n 1, 1), (52, .iload_n 2, 1), (53, .idiv, 1), (54, .ireturn, 1)]
theorem tb_X5_answerOf : ∀ q ∈ tab_X5_answerOf, decode m_X5_answerOf.2.1 q.1 = .ok q.2 := by decide +kernel
def tab_X5_stepsOf : List (Nat × Instr × Nat) := [(0, .iload_n 1, 1), (1, .invokestatic 286, 3), (4, .istore_n 2, 1), (5, .iload_n 0, 1), (6, .tableswitch 36 0 2 #[26, 28, 32], 26), (32, .iload_n 2, 1), (33, .ireturn, 1), (34, .iload_n 2, 1), (35, .iconst 1, 1), (36, .iadd, 1), (37, .ireturn, 1), (38, .iconst 2, 1), (39, .iload_n 2, 1), (40, .imul, 1), (41, .ireturn, 1), (42, .iconst 2, 1), (43, .iload_n 2, 1), (44, .imul, 1), (45, .iconst 1, 1), (46, .isub, 1), (47, .ireturn, 1)]
theorem tb_X5_stepsOf : ∀ q ∈ tab_X5_stepsOf, decode m_X5_stepsOf.2.1 q.1 = .ok q.2 := by decide +kernel
def tab_X5_figuresOf : List (Nat × Instr × Nat) := [(0, .iconst 1, 1), (1, .istore_n 1, 1), (2, .iload_n 0, 1), (3, .bipush 10, 2), (5, .idiv, 1), (6, .istore_n 2, 1), (7, .iconst 0, 1), (8, .istore_n 3, 1), (9, .iload_n 3, 1), (10, .bipush 10, 2), (12, .if_icmp .ge 21, 3), (15, .iload_n 2, 1), (16, .ifCond .le 17, 3), (19, .iinc 1 1, 3), (22, .iload_n 2, 1), (23, .bipush 10, 2), (25, .idiv, 1), (26, .istore_n 2, 1), (27, .iinc 3 1, 3), (30, .goto (-21), 3), (33, .iload_n 1, 1), (34, .ireturn, 1)]
theorem tb_X5_figuresOf : ∀ q ∈ tab_X5_figuresOf, decode m_X5_figuresOf.2.1 q.1 = .ok q.2 := by decide +kernel
def tab_X5_sevensOf : List (Nat × Instr × Nat) := [(0, .iconst 0, 1), (1, .istore_n 1, 1), (2, .iload_n 0, 1), (3, .istore_n 2, 1), (4, .iconst 0, 1), (5, .istore_n 3, 1), (6, .iload_n 3, 1), (7, .bipush 10, 2), (9, .if_icmp .ge 30, 3), (12, .iload_n 2, 1), (13, .ifCond .le 26, 3), (16, .iload_n 2, 1), (17, .bipush 10, 2), (19, .irem, 1), (20, .bipush 7, 2), (22, .if_icmp .ne 6, 3), (25, .iinc 1 1, 3), (28, .iload_n 2, 1), (29, .bipush 10, 2), (31, .idiv, 1), (32, .istore_n 2, 1), (33, .iinc 3 1, 3), (36, .goto (-30), 3), (39, .iload_n 1, 1), (40, .ireturn, 1)]
theorem tb_X5_sevensOf : ∀ q ∈ tab_X5_sevensOf, decode m_X5_sevensOf.2.1 q.1 = .ok q.2 := by decide +kernel
def tab_X5_walkFromNow : List (Nat × Instr × Nat) := [(0, .aload_n 0, 1), (1, .getfield 10, 3), (4, .aload_n 0, 1), (5, .getfield 19, 3), (8, .invokevirtual 98, 3), (11, .aload_n 0, 1), (12, .getfield 10, 3), (15, .iload_n 1, 1), (16, .invokevirtual 165, 3), (19, .return_, 1)]
theorem tb_X5_walkFromNow : ∀ q ∈ tab_X5_walkFromNow, decode m_X5_walkFromNow.2.1 q.1 = .ok q.2 := by decide +kernel
def tab_X5_harmOf : List (Nat × Instr × Nat) := [(0, .aload_n 0, 1), (1, .iload_n 1, 1), (2, .invokevirtual 172, 3), (5, .aload_n 0, 1), (6, .getfield 10, 3), (9, .getfield 169, 3), (12, .ireturn, 1)]
theorem tb_X5_harmOf : ∀ q ∈ tab_X5_harmOf, decode m_X5_harmOf.2.1 q.1 = .ok q.2 := by decide +kernel
def tab_X5_harmWith : List (Nat × Instr × Nat) := [(0, .aload_n 0, 1), (1, .getfield 10, 3), (4, .aload_n 0, 1), (5, .getfield 19, 3), (8, .invokevirtual 98, 3), (11, .aload_n 0, 1), (12, .getfield 10, 3), (15, .iload_n 1, 1), (16, .aload_n 0, 1), (17, .getfield 19, 3), (20, .getfield 232, 3), (23, .iload_n 1, 1), (24, .iaload, 1), (25, .aload_n 0, 1), (26, .getfield 19, 3), (29, .getfield 289, 3), (32, .iload_n 1, 1), (33, .iaload, 1), (34, .iload_n 2, 1), (35, .aload_n 0, 1), (36, .getfield 19, 3), (39, .getfield 292, 3), (42, .iload_n 1, 1), (43, .iaload, 1), (44, .invokevirtual 295, 3), (47, .aload_n 0, 1), (48, .getfield 10, 3), (51, .iload_n 3, 1), (52, .invokevirtual 165, 3), (55, .aload_n 0, 1), (56, .getfield 10, 3), (59, .getfield 169, 3), (62, .ireturn, 1)]
theorem tb_X5_harmWith : ∀ q ∈ tab_X5_harmWith, decode m_X5_harmWith.2.1 q.1 = .ok q.2 := by decide +kernel
def tab_X5_harmByPlan : List (Nat × Instr × Nat) := [(0, .aload_n 0, 1), (1, .getfield 10, 3), (4, .aload_n 0, 1), (5, .getfield 19, 3), (8, .invokevirtual 98, 3), (11, .iconst 0, 1), (12, .istore_n 3, 1), (13, .iload_n 3, 1), (14, .aload_n 0, 1), (15, .getfield 19, 3), (18, .getfield 92, 3), (21, .if_icmp .ge 24, 3), (24, .aload_n 0, 1), (25, .getfield 10, 3), (28, .getfield 180, 3), (31, .iload_n 3, 1), (32, .aload_n 0, 1), (33, .iload_n 1, 1), (34, .iload_n 3, 1), (35, .invokevirtual 193, 3), (38, .iastore, 1), (39, .iinc 3 1, 3), (42, .goto (-29), 3), (45, .aload_n 0, 1), (46, .getfield 10, 3), (49, .iload_n 2, 1), (50, .invokevirtual 165, 3), (53, .aload_n 0, 1), (54, .getfield 10, 3), (57, .getfield 169, 3), (60, .ireturn, 1)]
theorem tb_X5_harmByPlan : ∀ q ∈ tab_X5_harmByPlan, decode m_X5_harmByPlan.2.1 q.1 = .ok q.2 := by decide +kernel
def tab_X5_deskByPlan : List (Nat × Instr × Nat) := [(0, .iload_n 1, 1), (1, .istore_n 3, 1), (2, .aload_n 0, 1), (3, .getfield 19, 3), (6, .getfield 92, 3), (9, .iconst 1, 1), (10, .isub, 1), (11, .istore 4, 2), (13, .iload 4, 2), (15, .iload_n 2, 1), (16, .if_icmp .le 14, 3), (19, .iload_n 3, 1), (20, .bipush 6, 2), (22, .idiv, 1), (23, .istore_n 3, 1), (24, .iinc 4 (-1), 3), (27, .goto (-14), 3), (30, .iload_n 3, 1), (31, .bipush 6, 2), (33, .irem, 1), (34, .ireturn, 1)]
theorem tb_X5_deskByPlan : ∀ q ∈ tab_X5_deskByPlan, decode m_X5_deskByPlan.2.1 q.1 = .ok q.2 := by decide +kernel
def tab_X5_goWithout : List (Nat × Instr × Nat) := [(0, .aload_n 0, 1), (1, .getfield 10, 3), (4, .aload_n 0, 1), (5, .getfield 19, 3), (8, .invokevirtual 98, 3), (11, .iconst 0, 1), (12, .istore_n 3, 1), (13, .iload_n 3, 1), (14, .aload_n 0, 1), (15, .getfield 19, 3), (18, .getfield 92, 3), (21, .if_icmp .ge 28, 3), (24, .iload_n 1, 1), (25, .iload_n 3, 1), (26, .ishr, 1), (27, .iconst 1, 1), (28, .iand, 1), (29, .iconst 1, 1), (30, .if_icmp .ne 13, 3), (33, .aload_n 0, 1), (34, .getfield 10, 3), (37, .getfield 196, 3), (40, .iload_n 3, 1), (41, .iconst 0, 1), (42, .iastore, 1), (43, .iinc 3 1, 3), (46, .goto (-33), 3), (49, .aload_n 0, 1), (50, .getfield 10, 3), (53, .iload_n 2, 1), (54, .invokevirtual 165, 3), (57, .return_, 1)]
theorem tb_X5_goWithout : ∀ q ∈ tab_X5_goWithout, decode m_X5_goWithout.2.1 q.1 = .ok q.2 := by decide +kernel
def tab_X5_weight : List (Nat × Instr × Nat) := [(0, .iconst 1, 1), (1, .istore_n 3, 1), (2, .iconst 0, 1), (3, .istore 4, 2), (5, .iload 4, 2), (7, .aload_n 0, 1), (8, .getfield 19, 3), (11, .getfield 92, 3), (14, .if_icmp .ge 30, 3), (17, .iload_n 3, 1), (18, .iload_n 1, 1), (19, .iload 4, 2), (21, .ishr, 1), (22, .iconst 1, 1), (23, .iand, 1), (24, .iconst 1, 1), (25, .if_icmp .ne 7, 3), (28, .iload_n 2, 1), (29, .goto 7, 3), (32, .bipush 10, 2), (34, .iload_n 2, 1), (35, .isub, 1), (36, .imul, 1), (37, .istore_n 3, 1), (38, .iinc 4 1, 3), (41, .goto (-36), 3), (44, .iload_n 3, 1), (45, .ireturn, 1)]
theorem tb_X5_weight : ∀ q ∈ tab_X5_weight, decode m_X5_weight.2.1 q.1 = .ok q.2 := by decide +kernel
def tab_X5_isAsSeen : List (Nat × Instr × Nat) := [(0, .aload_n 0, 1), (1, .getfield 10, 3), (4, .aload_n 0, 1), (5, .getfield 19, 3), (8, .invokevirtual 98, 3), (11, .aload_n 0, 1), (12, .getfield 10, 3), (15, .iload_n 1, 1), (16, .iload_n 2, 1), (17, .aload_n 0, 1), (18, .getfield 19, 3), (21, .getfield 289, 3), (24, .iload_n 1, 1), (25, .iaload, 1), (26, .iload_n 3, 1), (27, .aload_n 0, 1), (28, .getfield 19, 3), (31, .getfield 292, 3), (34, .iload_n 1, 1), (35, .iaload, 1), (36, .invokevirtual 295, 3), (39, .aload_n 0, 1), (40, .getfield 19, 3), (43, .invokevirtual 299, 3), (46, .istore 4, 2), (48, .iconst 0, 1), (49, .istore 5, 2), (51, .iload 5, 2), (53, .iload 4, 2), (55, .if_icmp .gt 34, 3), (58, .aload_n 0, 1), (59, .getfield 19, 3), (62, .aload_n 0, 1), (63, .getfield 10, 3), (66, .iload 5, 2), (68, .invokevirtual 302, 3), (71, .ifCond .ne 5, 3), (74, .iconst 0, 1), (75, .ireturn, 1), (76, .aload_n 0, 1), (77, .getfield 10, 3), (80, .invokevirtual 181, 3), (83, .iinc 5 1, 3), (86, .goto (-35), 3), (89, .iconst 1, 1), (90, .ireturn, 1)]
theorem tb_X5_isAsSeen : ∀ q ∈ tab_X5_isAsSeen, decode m_X5_isAsSeen.2.1 q.1 = .ok q.2 := by decide +kernel
def tab_X5_tallyRooms : List (Nat × Instr × Nat) := [(0, .iconst 0, 1), (1, .istore_n 2, 1), (2, .iload_n 2, 1), (3, .aload_n 0, 1), (4, .getfield 54, 3), (7, .arraylength, 1), (8, .if_icmp .ge 16, 3), (11, .aload_n 0, 1), (12, .getfield 54, 3), (15, .iload_n 2, 1), (16, .iconst 0, 1), (17, .iastore, 1), (18, .iinc 2 1, 3), (21, .goto (-19), 3), (24, .iconst 0, 1), (25, .istore_n 2, 1), (26, .iconst 1, 1), (27, .istore_n 3, 1), (28, .iload_n 3, 1), (29, .bipush 99, 2), (31, .if_icmp .gt 36, 3), (34, .aload_n 0, 1), (35, .iload_n 1, 1), (36, .aload_n 0, 1), (37, .getfield 19, 3), (40, .getfield 232, 3), (43, .iload_n 1, 1), (44, .iaload, 1), (45, .iload_n 3, 1), (46, .invokevirtual 229, 3), (49, .ifCond .eq 12, 3), (52, .iinc 2 1, 3), (55, .aload_n 0, 1), (56, .iload_n 1, 1), (57, .iload_n 3, 1), (58, .invokevirtual 306, 3), (61, .iinc 3 1, 3), (64, .goto (-36), 3), (67, .iload_n 2, 1), (68, .ireturn, 1)]
theorem tb_X5_tallyRooms : ∀ q ∈ tab_X5_tallyRooms, decode m_X5_tallyRooms.2.1 q.1 = .ok q.2 := by decide +kernel
def tab_X5_tallyTrail : List (Nat × Instr × Nat) := [(0, .aload_n 0, 1), (1, .getfield 10, 3), (4, .aload_n 0, 1), (5, .getfield 19, 3), (8, .invokevirtual 98, 3), (11, .aload_n 0, 1), (12, .getfield 10, 3), (15, .iload_n 1, 1), (16, .aload_n 0, 1), (17, .getfield 19, 3), (20, .getfield 232, 3), (23, .iload_n 1, 1), (24, .iaload, 1), (25, .aload_n 0, 1), (26, .getfield 19, 3), (29, .getfield 289, 3), (32, .iload_n 1, 1), (33, .iaload, 1), (34, .iload_n 2, 1), (35, .aload_n 0, 1), (36, .getfield 19, 3), (39, .getfield 292, 3), (42, .iload_n 1, 1), (43, .iaload, 1), (44, .invokevirtual 295, 3), (47, .iconst 0, 1), (48, .istore_n 3, 1), (49, .iload_n 3, 1), (50, .bipush 20, 2), (52, .if_icmp .gt 39, 3), (55, .aload_n 0, 1), (56, .getfield 54, 3), (59, .iload_n 3, 1), (60, .bipush 6, 2), (62, .imul, 1), (63, .aload_n 0, 1), (64, .getfield 10, 3), (67, .getfield 175, 3), (70, .iload_n 1, 1), (71, .iaload, 1), (72, .iadd, 1), (73, .dup2, 1), (74, .iaload, 1), (75, .iconst 1, 1), (76, .iadd, 1), (77, .iastore, 1), (78, .aload_n 0, 1), (79, .getfield 10, 3), (82, .invokevirtual 181, 3), (85, .iinc 3 1, 3), (88, .goto (-39), 3), (91, .return_, 1)]
theorem tb_X5_tallyTrail : ∀ q ∈ tab_X5_tallyTrail, decode m_X5_tallyTrail.2.1 q.1 = .ok q.2 := by decide +kernel
def tab_X5_worstBehind : List (Nat × Instr × Nat) := [(0, .iconst 0, 1), (1, .istore_n 2, 1), (2, .iconst 0, 1), (3, .istore_n 3, 1), (4, .iload_n 3, 1), (5, .bipush 6, 2), (7, .if_icmp .ge 25, 3), (10, .iload_n 2, 1), (11, .aload_n 0, 1), (12, .getfield 54, 3), (15, .iload_n 1, 1), (16, .bipush 6, 2), (18, .imul, 1), (19, .iload_n 3, 1), (20, .iadd, 1), (21, .iaload, 1), (22, .invokestatic 309, 3), (25, .istore_n 2, 1), (26, .iinc 3 1, 3), (29, .goto (-25), 3), (32, .iload_n 2, 1), (33, .ireturn, 1)]
theorem tb_X5_worstBehind : ∀ q ∈ tab_X5_worstBehind, decode m_X5_worstBehind.2.1 q.1 = .ok q.2 := by decide +kernel
def tab_X6_in : List (Nat × Instr × Nat) := [(0, .lload_n 0, 1), (1, .lload_n 2, 1), (2, .lcmp, 1), (3, .ifCond .lt 14, 3), (6, .lload_n 0, 1), (7, .lload 4, 2), (9, .lcmp, 1), (10, .ifCond .gt 7, 3), (13, .iconst 1, 1), (14, .goto 4, 3), (17, .iconst 0, 1), (18, .ireturn, 1)]
theorem tb_X6_in : ∀ q ∈ tab_X6_in, decode m_X6_in.2.1 q.1 = .ok q.2 := by decide +kernel
def tab_X6_flag : List (Nat × Instr × Nat) := [(0, .iload_n 0, 1), (1, .ifCond .eq 7, 3), (4, .iconst 1, 1), (5, .goto 4, 3), (8, .iconst 0, 1), (9, .ireturn, 1)]
theorem tb_X6_flag : ∀ q ∈ tab_X6_flag, decode m_X6_flag.2.1 q.1 = .ok q.2 := by decide +kernel
def tab_X6_lesser : List (Nat × Instr × Nat) := [(0, .iload_n 0, 1), (1, .iload_n 1, 1), (2, .if_icmp .ge 7, 3), (5, .iload_n 0, 1), (6, .goto 4, 3), (9, .iload_n 1, 1), (10, .ireturn, 1)]
theorem tb_X6_lesser : ∀ q ∈ tab_X6_lesser, decode m_X6_lesser.2.1 q.1 = .ok q.2 := by decide +kernel
def tab_X6_firstDraft : List (Nat × Instr × Nat) := [(0, .iconst 0, 1), (1, .istore_n 1, 1), (2, .iload_n 1, 1), (3, .bipush 47, 2), (5, .if_icmp .ge 16, 3), (8, .aload_n 0, 1), (9, .getfield 20, 3), (12, .iload_n 1, 1), (13, .iconst 0, 1), (14, .iastore, 1), (15, .iinc 1 1, 3), (18, .goto (-16), 3), (21, .aload_n 0, 1), (22, .iconst 0, 1), (23, .putfield 56, 3), (26, .aload_n 0, 1), (27, .iconst 0, 1), (28, .putfield 60, 3), (31, .aload_n 0, 1), (32, .bipush (-4), 2), (34, .putfield 63, 3), (37, .return_, 1)]
theorem tb_X6_firstDraft : ∀ q ∈ tab_X6_firstDraft, decode m_X6_firstDraft.2.1 q.1 = .ok q.2 := by decide +kernel
def tab_X6_keepDraft : List (Nat × Instr × Nat) := [(0, .iconst 0, 1), (1, .istore_n 1, 1), (2, .iload_n 1, 1), (3, .bipush 47, 2), (5, .if_icmp .ge 21, 3), (8, .aload_n 0, 1), (9, .getfield 7, 3), (12, .iload_n 1, 1), (13, .aload_n 0, 1), (14, .getfield 20, 3), (17, .iload_n 1, 1), (18, .iaload, 1), (19, .iastore, 1), (20, .iinc 1 1, 3), (23, .goto (-21), 3), (26, .aload_n 0, 1), (27, .aload_n 0, 1), (28, .getfield 56, 3), (31, .putfield 66, 3), (34, .iconst 0, 1), (35, .istore_n 1, 1), (36, .iload_n 1, 1), (37, .aload_n 0, 1), (38, .getfield 7, 3), (41, .bipush 20, 2), (43, .iaload, 1), (44, .if_icmp .ge 41, 3), (47, .aload_n 0, 1), (48, .getfield 7, 3), (51, .iconst 5, 1), (52, .iload_n 1, 1), (53, .imul, 1), (54, .iconst 4, 1), (55, .iadd, 1), (56, .aload_n 0, 1), (57, .getfield 60, 3), (60, .iload_n 1, 1), (61, .ishr, 1), (62, .iconst 1, 1), (63, .iand, 1), (64, .iconst 1, 1), (65, .if_icmp .ne 12, 3), (68, .aload_n 0, 1), (69, .getfield 23, 3), (72, .iload_n 1, 1), (73, .iaload, 1), (74, .goto 4, 3), (77, .iconst 0, 1), (78, .iastore, 1), (79, .iinc 1 1, 3), (82, .goto (-46), 3), (85, .aload_n 0, 1), (86, .getfield 16, 3), (89, .iconst 0, 1), (90, .iconst 0, 1), (91, .bastore, 1), (92, .aload_n 0, 1), (93, .getfield 16, 3), (96, .iconst 1, 1), (97, .iconst 0, 1), (98, .bastore, 1), (99, .return_, 1)]
theorem tb_X6_keepDraft : ∀ q ∈ tab_X6_keepDraft, decode m_X6_keepDraft.2.1 q.1 = .ok q.2 := by decide +kernel
def tab_X6_feed : List (Nat × Instr × Nat) := [(0, .iload_n 1, 1), (1, .i2l, 1), (2, .lconst 0, 1), (3, .ldc2_w 69, 3), (6, .invokestatic 71, 3), (9, .ifCond .ne 5, 3), (12, .iconst (-1), 1), (13, .ireturn, 1), (14, .aload_n 0, 1), (15, .getfield 75, 3), (18, .sipush 160, 3), (21, .if_icmp .ne 6, 3), (24, .bipush (-3), 2), (26, .ireturn, 1), (27, .aload_n 0, 1), (28, .getfield 26, 3), (31, .aload_n 0, 1), (32, .getfield 75, 3), (35, .iload_n 1, 1), (36, .iastore, 1), (37, .aload_n 0, 1), (38, .dup, 1), (39, .getfield 75, 3), (42, .iconst 1, 1), (43, .iadd, 1), (44, .putfield 75, 3), (47, .aload_n 0, 1), (48, .getfield 75, 3), (51, .ireturn, 1)]
theorem tb_X6_feed : ∀ q ∈ tab_X6_feed, decode m_X6_feed.2.1 q.1 = .ok q.2 := by decide +kernel
def tab_X6_end : List (Nat × Instr × Nat) := [(0, .iload_n 1, 1), (1, .i2l, 1), (2, .lconst 0, 1), (3, .aload_n 0, 1), (4, .getfield 75, 3), (7, .i2l, 1), (8, .invokestatic 71, 3), (11, .ifCond .ne 5, 3), (14, .iconst (-1), 1), (15, .ireturn, 1), (16, .aload_n 0, 1), (17, .getfield 75, 3), (20, .istore_n 2, 1), (21, .aload_n 0, 1), (22, .iload_n 1, 1), (23, .putfield 75, 3), (26, .iload_n 2, 1), (27, .ireturn, 1)]
theorem tb_X6_end : ∀ q ∈ tab_X6_end, decode m_X6_end.2.1 q.1 = .ok q.2 := by decide +kernel
def tab_X6_needs : List (Nat × Instr × Nat) := [(0, .iload_n 1, 1), (1, .ifCond .ne 23, 3), (4, .aload_n 0, 1), (5, .getfield 78, 3), (8, .ifCond .ne 16, 3), (11, .aload_n 0, 1), (12, .iload_n 2, 1), (13, .putfield 78, 3), (16, .aload_n 0, 1), (17, .aload_n 0, 1), (18, .getfield 81, 3), (21, .putfield 84, 3), (24, .return_, 1)]
theorem tb_X6_needs : ∀ q ∈ tab_X6_needs, decode m_X6_needs.2.1 q.1 = .ok q.2 := by decide +kernel
def tab_X6_byteAt : List (Nat × Instr × Nat) := [(0, .iload_n 1, 1), (1, .aload_n 0, 1), (2, .getfield 75, 3), (5, .if_icmp .ge 12, 3), (8, .aload_n 0, 1), (9, .getfield 26, 3), (12, .iload_n 1, 1), (13, .iaload, 1), (14, .goto 4, 3), (17, .iconst (-1), 1), (18, .ireturn, 1)]
theorem tb_X6_byteAt : ∀ q ∈ tab_X6_byteAt, decode m_X6_byteAt.2.1 q.1 = .ok q.2 := by decide +kernel
def tab_X6_is : List (Nat × Instr × Nat) := [(0, .aload_n 0, 1), (1, .getfield 87, 3), (4, .aload_n 0, 1), (5, .getfield 81, 3), (8, .isub, 1), (9, .iload_n 1, 1), (10, .if_icmp .ne 63, 3), (13, .aload_n 0, 1), (14, .aload_n 0, 1), (15, .getfield 81, 3), (18, .invokevirtual 90, 3), (21, .iload_n 2, 1), (22, .if_icmp .ne 51, 3), (25, .aload_n 0, 1), (26, .aload_n 0, 1), (27, .getfield 81, 3), (30, .iconst 1, 1), (31, .iadd, 1), (32, .invokevirtual 90, 3), (35, .iload_n 3, 1), (36, .if_icmp .ne 37, 3), (39, .aload_n 0, 1), (40, .aload_n 0, 1), (41, .getfield 81, 3), (44, .iconst 2, 1), (45, .iadd, 1), (46, .invokevirtual 90, 3), (49, .iload 4, 2), (51, .if_icmp .ne 22, 3), (54, .aload_n 0, 1), (55, .aload_n 0, 1), (56, .getfield 81, 3), (59, .iconst 3, 1), (60, .iadd, 1), (61, .invokevirtual 90, 3), (64, .iload 5, 2), (66, .if_icmp .ne 7, 3), (69, .iconst 1, 1), (70, .goto 4, 3), (73, .iconst 0, 1), (74, .istore 7, 2), (76, .iload 7, 2), (78, .ifCond .eq 27, 3), (81, .iload 6, 2), (83, .ifCond .eq 18, 3), (86, .aload_n 0, 1), (87, .aload_n 0, 1), (88, .getfield 81, 3), (91, .iconst 4, 1), (92, .iadd, 1), (93, .invokevirtual 90, 3), (96, .iload 6, 2), (98, .if_icmp .ne 7, 3), (101, .iconst 1, 1), (102, .goto 4, 3), (105, .iconst 0, 1), (106, .ireturn, 1)]
theorem tb_X6_is : ∀ q ∈ tab_X6_is, decode m_X6_is.2.1 q.1 = .ok q.2 := by decide +kernel
def tab_X6_lineNow : List (Nat × Instr × Nat) := [(0, .aload_n 0, 1), (1, .iconst 4, 1), (2, .bipush 112, 2), (4, .bipush 108, 2), (6, .bipush 117, 2), (8, .bipush 115, 2), (10, .iconst 0, 1), (11, .invokevirtual 94, 3), (14, .ifCond .eq 5, 3), (17, .iconst 0, 1), (18, .ireturn, 1), (19, .aload_n 0, 1), (20, .iconst 4, 1), (21, .bipush 108, 2), (23, .bipush 101, 2), (25, .bipush 115, 2), (27, .bipush 115, 2), (29, .iconst 0, 1), (30, .invokevirtual 94, 3), (33, .ifCond .eq 5, 3), (36, .iconst 1, 1), (37, .ireturn, 1), (38, .aload_n 0, 1), (39, .iconst 5, 1), (40, .bipush 116, 2), (42, .bipush 105, 2), (44, .bipush 109, 2), (46, .bipush 101, 2), (48, .bipush 115, 2), (50, .invokevirtual 94, 3), (53, .ifCond .eq 5, 3), (56, .iconst 2, 1), (57, .ireturn, 1), (58, .aload_n 0, 1), (59, .iconst 4, 1), (60, .bipush 111, 2), (62, .bipush 118, 2), (64, .bipush 101, 2), (66, .bipush 114, 2), (68, .iconst 0, 1), (69, .invokevirtual 94, 3), (72, .ifCond .eq 5, 3), (75, .iconst 3, 1), (76, .ireturn, 1), (77, .aload_n 0, 1), (78, .iconst 4, 1), (79, .bipush 100, 2), (81, .bipush 111, 2), (83, .bipush 110, 2), (85, .bipush 101, 2), (87, .iconst 0, 1), (88, .invokevirtual 94, 3), (91, .ifCond .eq 7, 3), (94, .iconst 4, 1), (95, .goto 27, 3), (98, .aload_n 0, 1), (99, .iconst 5, 1), (100, .bipush 99, 2), (102, .bipush 108, 2), (104, .bipush 101, 2), (106, .bipush 114, 2), (108, .bipush 107, 2), (110, .invokevirtual 94, 3), (113, .ifCond .eq 7, 3), (116, .iconst 5, 1), (117, .goto 5, 3), (120, .bipush (-4), 2), (122, .ireturn, 1)]
theorem tb_X6_lineNow : ∀ q ∈ tab_X6_lineNow, decode m_X6_lineNow.2.1 q.1 = .ok q.2 := by decide +kernel
def tab_X6_takes : List (Nat × Instr × Nat) := [(0, .aload_n 0, 1), (1, .getfield 78, 3), (4, .ifCond .le 4, 3), (7, .return_, 1), (8, .aload_n 0, 1), (9, .aload_n 0, 1), (10, .getfield 87, 3), (13, .invokevirtual 90, 3), (16, .bipush 32, 2), (18, .if_icmp .ne 16, 3), (21, .aload_n 0, 1), (22, .dup, 1), (23, .getfield 87, 3), (26, .iconst 1, 1), (27, .iadd, 1), (28, .putfield 87, 3), (31, .goto (-23), 3), (34, .aload_n 0, 1), (35, .aload_n 0, 1), (36, .getfield 87, 3), (39, .putfield 81, 3), (42, .aload_n 0, 1), (43, .aload_n 0, 1), (44, .getfield 87, 3), (47, .invokevirtual 90, 3), (50, .istore_n 1, 1), (51, .iload_n 1, 1), (52, .ifCond .ge 11, 3), (55, .aload_n 0, 1), (56, .iconst 0, 1), (57, .putfield 98, 3), (60, .goto 214, 3), (63, .iload_n 1, 1), (64, .i2l, 1), (65, .ldc2_w 101, 3), (68, .ldc2_w 103, 3), (71, .invokestatic 71, 3), (74, .ifCond .eq 42, 3), (77, .aload_n 0, 1), (78, .iconst 1, 1), (79, .putfield 98, 3), (82, .aload_n 0, 1), (83, .aload_n 0, 1), (84, .getfield 87, 3), (87, .invokevirtual 90, 3), (90, .i2l, 1), (91, .ldc2_w 101, 3), (94, .ldc2_w 103, 3), (97, .invokestatic 71, 3), (100, .ifCond .eq 174, 3), (103, .aload_n 0, 1), (104, .dup, 1), (105, .getfield 87, 3), (108, .iconst 1, 1), (109, .iadd, 1), (110, .putfield 87, 3), (113, .goto (-31), 3), (116, .iload_n 1, 1), (117, .i2l, 1), (118, .ldc2_w 105, 3), (121, .ldc2_w 107, 3), (124, .invokestatic 71, 3), (127, .ifCond .eq 116, 3), (130, .aload_n 0, 1), (131, .iconst 2, 1), (132, .putfield 98, 3), (135, .aload_n 0, 1), (136, .iconst 0, 1), (137, .putfield 109, 3), (140, .aload_n 0, 1), (141, .aload_n 0, 1), (142, .getfield 87, 3), (145, .invokevirtual 90, 3), (148, .i2l, 1), (149, .ldc2_w 105, 3), (152, .ldc2_w 107, 3), (155, .invokestatic 71, 3), (158, .ifCond .eq 59, 3), (161, .aload_n 0, 1), (162, .aload_n 0, 1), (163, .getfield 87, 3), (166, .aload_n 0, 1), (167, .getfield 81, 3), (170, .isub, 1), (171, .iconst 2, 1), (172, .if_icmp .ge 25, 3), (175, .bipush 10, 2), (177, .aload_n 0, 1), (178, .getfield 109, 3), (181, .imul, 1), (182, .aload_n 0, 1), (183, .aload_n 0, 1), (184, .getfield 87, 3), (187, .invokevirtual 90, 3), (190, .iadd, 1), (191, .bipush 48, 2), (193, .isub, 1), (194, .goto 7, 3), (197, .aload_n 0, 1), (198, .getfield 109, 3), (201, .putfield 109, 3), (204, .aload_n 0, 1), (205, .dup, 1), (206, .getfield 87, 3), (209, .iconst 1, 1), (210, .iadd, 1), (211, .putfield 87, 3), (214, .goto (-74), 3), (217, .aload_n 0, 1), (218, .aload_n 0, 1), (219, .getfield 87, 3), (222, .aload_n 0, 1), (223, .getfield 81, 3), (226, .isub, 1), (227, .iconst 2, 1), (228, .if_icmp .gt 7, 3), (231, .iconst 1, 1), (232, .goto 4, 3), (235, .iconst 0, 1), (236, .iconst 1, 1), (237, .invokevirtual 112, 3), (240, .goto 34, 3), (243, .aload_n 0, 1), (244, .iconst 3, 1), (245, .putfield 98, 3), (248, .aload_n 0, 1), (249, .iload_n 1, 1), (250, .bipush 59, 2), (252, .if_icmp .ne 7, 3), (255, .iconst 1, 1), (256, .goto 4, 3), (259, .iconst 0, 1), (260, .iconst 1, 1), (261, .invokevirtual 112, 3), (264, .aload_n 0, 1), (265, .dup, 1), (266, .getfield 87, 3), (269, .iconst 1, 1), (270, .iadd, 1), (271, .putfield 87, 3), (274, .return_, 1)]
theorem tb_X6_takes : ∀ q ∈ tab_X6_takes, decode m_X6_takes.2.1 q.1 = .ok q.2 := by decide +kernel
def tab_X6_looked : List (Nat × Instr × Nat) := [(0, .aload_n 0, 1), (1, .getfield 78, 3), (4, .ifCond .ne 21, 3), (7, .aload_n 0, 1), (8, .aload_n 0, 1), (9, .getfield 98, 3), (12, .iconst 2, 1), (13, .if_icmp .ne 7, 3), (16, .iconst 1, 1), (17, .goto 4, 3), (20, .iconst 0, 1), (21, .iconst 2, 1), (22, .invokevirtual 112, 3), (25, .aload_n 0, 1), (26, .getfield 78, 3), (29, .ifCond .ne 20, 3), (32, .aload_n 0, 1), (33, .aload_n 0, 1), (34, .getfield 109, 3), (37, .i2l, 1), (38, .iload_n 1, 1), (39, .i2l, 1), (40, .iload_n 2, 1), (41, .i2l, 1), (42, .invokestatic 71, 3), (45, .iconst 3, 1), (46, .invokevirtual 112, 3), (49, .aload_n 0, 1), (50, .getfield 78, 3), (53, .ifCond .ne 10, 3), (56, .aload_n 0, 1), (57, .getfield 109, 3), (60, .goto 4, 3), (63, .iconst 0, 1), (64, .ireturn, 1)]
theorem tb_X6_looked : ∀ q ∈ tab_X6_looked, decode m_X6_looked.2.1 q.1 = .ok q.2 := by decide +kernel
def tab_X6_readNumber : List (Nat × Instr × Nat) := [(0, .aload_n 0, 1), (1, .iload_n 1, 1), (2, .iload_n 2, 1), (3, .invokevirtual 116, 3), (6, .istore_n 3, 1), (7, .aload_n 0, 1), (8, .invokevirtual 120, 3), (11, .iload_n 3, 1), (12, .ireturn, 1)]
theorem tb_X6_readNumber : ∀ q ∈ tab_X6_readNumber, decode m_X6_readNumber.2.1 q.1 = .ok q.2 := by decide +kernel
def tab_X6_readDone : List (Nat × Instr × Nat) := [(0, .aload_n 0, 1), (1, .iconst 0, 1), (2, .iconst 3, 1), (3, .invokevirtual 116, 3), (6, .istore_n 1, 1), (7, .aload_n 0, 1), (8, .aload_n 0, 1), (9, .getfield 60, 3), (12, .iload_n 1, 1), (13, .ishr, 1), (14, .iconst 1, 1), (15, .iand, 1), (16, .ifCond .ne 7, 3), (19, .iconst 1, 1), (20, .goto 4, 3), (23, .iconst 0, 1), (24, .iconst 4, 1), (25, .invokevirtual 112, 3), (28, .aload_n 0, 1), (29, .dup, 1), (30, .getfield 60, 3), (33, .iconst 1, 1), (34, .iload_n 1, 1), (35, .ishl, 1), (36, .ior, 1), (37, .putfield 60, 3), (40, .aload_n 0, 1), (41, .aload_n 0, 1), (42, .getfield 78, 3), (45, .ifCond .ne 15, 3), (48, .iload_n 1, 1), (49, .aload_n 0, 1), (50, .getfield 63, 3), (53, .if_icmp .le 7, 3), (56, .iload_n 1, 1), (57, .goto 7, 3), (60, .aload_n 0, 1), (61, .getfield 63, 3), (64, .putfield 63, 3), (67, .aload_n 0, 1), (68, .invokevirtual 120, 3), (71, .aload_n 0, 1), (72, .getfield 23, 3), (75, .iload_n 1, 1), (76, .aload_n 0, 1), (77, .iconst 0, 1), (78, .bipush 20, 2), (80, .invokevirtual 123, 3), (83, .iastore, 1), (84, .return_, 1)]
theorem tb_X6_readDone : ∀ q ∈ tab_X6_readDone, decode m_X6_readDone.2.1 q.1 = .ok q.2 := by decide +kernel
def tab_X6_readLineOf : List (Nat × Instr × Nat) := [(0, .iload_n 1, 1), (1, .lookupswitch 89 #[(4, 27), (5, 34)], 27), (28, .aload_n 0, 1), (29, .invokevirtual 126, 3), (32, .goto 154, 3), (35, .aload_n 0, 1), (36, .getfield 20, 3), (39, .bipush 21, 2), (41, .iconst 2, 1), (42, .aload_n 0, 1), (43, .getfield 56, 3), (46, .imul, 1), (47, .iadd, 1), (48, .aload_n 0, 1), (49, .iconst 0, 1), (50, .iconst 5, 1), (51, .invokevirtual 123, 3), (54, .iastore, 1), (55, .aload_n 0, 1), (56, .getfield 20, 3), (59, .bipush 21, 2), (61, .iconst 2, 1), (62, .aload_n 0, 1), (63, .getfield 56, 3), (66, .imul, 1), (67, .iadd, 1), (68, .iconst 1, 1), (69, .iadd, 1), (70, .aload_n 0, 1), (71, .iconst 1, 1), (72, .iconst 3, 1), (73, .invokevirtual 123, 3), (76, .iastore, 1), (77, .aload_n 0, 1), (78, .dup, 1), (79, .getfield 56, 3), (82, .iconst 1, 1), (83, .iadd, 1), (84, .putfield 56, 3), (87, .goto 99, 3), (90, .aload_n 0, 1), (91, .getfield 20, 3), (94, .iconst 5, 1), (95, .aload_n 0, 1), (96, .getfield 20, 3), (99, .bipush 20, 2), (101, .iaload, 1), (102, .imul, 1), (103, .iconst 0, 1), (104, .iadd, 1), (105, .iload_n 1, 1), (106, .iastore, 1), (107, .aload_n 0, 1), (108, .getfield 20, 3), (111, .iconst 5, 1), (112, .aload_n 0, 1), (113, .getfield 20, 3), (116, .bipush 20, 2), (118, .iaload, 1), (119, .imul, 1), (120, .iconst 1, 1), (121, .iadd, 1), (122, .aload_n 0, 1), (123, .iconst 1, 1), (124, .bipush 99, 2), (126, .invokevirtual 123, 3), (129, .iastore, 1), (130, .aload_n 0, 1), (131, .getfield 20, 3), (134, .iconst 5, 1), (135, .aload_n 0, 1), (136, .getfield 20, 3), (139, .bipush 20, 2), (141, .iaload, 1), (142, .imul, 1), (143, .iconst 2, 1), (144, .iadd, 1), (145, .aload_n 0, 1), (146, .iconst 1, 1), (147, .bipush 99, 2), (149, .invokevirtual 123, 3), (152, .iastore, 1), (153, .aload_n 0, 1), (154, .getfield 20, 3), (157, .iconst 5, 1), (158, .aload_n 0, 1), (159, .getfield 20, 3), (162, .bipush 20, 2), (164, .iaload, 1), (165, .imul, 1), (166, .iconst 3, 1), (167, .iadd, 1), (168, .aload_n 0, 1), (169, .iconst 0, 1), (170, .iconst 5, 1), (171, .invokevirtual 123, 3), (174, .iastore, 1), (175, .aload_n 0, 1), (176, .getfield 20, 3), (179, .bipush 20, 2), (181, .dup2, 1), (182, .iaload, 1), (183, .iconst 1, 1), (184, .iadd, 1), (185, .iastore, 1), (186, .return_, 1)]
theorem tb_X6_readLineOf : ∀ q ∈ tab_X6_readLineOf, decode m_X6_readLineOf.2.1 q.1 = .ok q.2 := by decide +kernel
def tab_X6_readLine : List (Nat × Instr × Nat) := [(0, .aload_n 0, 1), (1, .getfield 98, 3), (4, .iconst 1, 1), (5, .if_icmp .ne 10, 3), (8, .aload_n 0, 1), (9, .invokevirtual 129, 3), (12, .goto 5, 3), (15, .bipush (-4), 2), (17, .istore_n 1, 1), (18, .aload_n 0, 1), (19, .iload_n 1, 1), (20, .bipush (-4), 2), (22, .if_icmp .eq 7, 3), (25, .iconst 1, 1), (26, .goto 4, 3), (29, .iconst 0, 1), (30, .iconst 2, 1), (31, .invokevirtual 112, 3), (34, .aload_n 0, 1), (35, .iload_n 1, 1), (36, .iconst 4, 1), (37, .if_icmp .eq 30, 3), (40, .iload_n 1, 1), (41, .iconst 5, 1), (42, .if_icmp .ne 14, 3), (45, .aload_n 0, 1), (46, .getfield 56, 3), (49, .iconst 3, 1), (50, .if_icmp .ge 21, 3), (53, .goto 14, 3), (56, .aload_n 0, 1), (57, .getfield 20, 3), (60, .bipush 20, 2), (62, .iaload, 1), (63, .iconst 4, 1), (64, .if_icmp .ge 7, 3), (67, .iconst 1, 1), (68, .goto 4, 3), (71, .iconst 0, 1), (72, .iconst 5, 1), (73, .invokevirtual 112, 3), (76, .aload_n 0, 1), (77, .invokevirtual 120, 3), (80, .aload_n 0, 1), (81, .getfield 78, 3), (84, .ifCond .le 4, 3), (87, .return_, 1), (88, .aload_n 0, 1), (89, .iload_n 1, 1), (90, .invokevirtual 133, 3), (93, .aload_n 0, 1), (94, .getfield 78, 3), (97, .ifCond .ne 21, 3), (100, .aload_n 0, 1), (101, .aload_n 0, 1), (102, .getfield 98, 3), (105, .iconst 3, 1), (106, .if_icmp .ne 7, 3), (109, .iconst 1, 1), (110, .goto 4, 3), (113, .iconst 0, 1), (114, .iconst 2, 1), (115, .invokevirtual 112, 3), (118, .aload_n 0, 1), (119, .invokevirtual 120, 3), (122, .return_, 1)]
theorem tb_X6_readLine : ∀ q ∈ tab_X6_readLine, decode m_X6_readLine.2.1 q.1 = .ok q.2 := by decide +kernel
def tab_X6_text : List (Nat × Instr × Nat) := [(0, .iconst 0, 1), (1, .istore_n 1, 1), (2, .aload_n 0, 1), (3, .iconst 0, 1), (4, .putfield 78, 3), (7, .aload_n 0, 1), (8, .iconst 0, 1), (9, .putfield 87, 3), (12, .aload_n 0, 1), (13, .invokevirtual 50, 3), (16, .aload_n 0, 1), (17, .invokevirtual 120, 3), (20, .aload_n 0, 1), (21, .getfield 78, 3), (24, .ifCond .ne 20, 3), (27, .aload_n 0, 1), (28, .getfield 98, 3), (31, .ifCond .eq 13, 3), (34, .aload_n 0, 1), (35, .invokevirtual 137, 3), (38, .iinc 1 1, 3), (41, .goto (-21), 3), (44, .aload_n 0, 1), (45, .getfield 78, 3), (48, .ifCond .ne 28, 3), (51, .aload_n 0, 1), (52, .aload_n 0, 1), (53, .getfield 63, 3), (56, .aload_n 0, 1), (57, .getfield 20, 3), (60, .bipush 20, 2), (62, .iaload, 1), (63, .if_icmp .ge 7, 3), (66, .iconst 1, 1), (67, .goto 4, 3), (70, .iconst 0, 1), (71, .bipush 6, 2), (73, .invokevirtual 112, 3), (76, .aload_n 0, 1), (77, .iconst 0, 1), (78, .putfield 75, 3), (81, .aload_n 0, 1), (82, .getfield 78, 3), (85, .ifCond .le 11, 3), (88, .bipush (-10), 2), (90, .aload_n 0, 1), (91, .getfield 84, 3), (94, .isub, 1), (95, .ireturn, 1), (96, .aload_n 0, 1), (97, .invokevirtual 53, 3), (100, .iload_n 1, 1), (101, .ireturn, 1)]
theorem tb_X6_text : ∀ q ∈ tab_X6_text, decode m_X6_text.2.1 q.1 = .ok q.2 := by decide +kernel
def tab_X6_fault : List (Nat × Instr × Nat) := [(0, .aload_n 0, 1), (1, .getfield 78, 3), (4, .ireturn, 1)]
theorem tb_X6_fault : ∀ q ∈ tab_X6_fault, decode m_X6_fault.2.1 q.1 = .ok q.2 := by decide +kernel
def tab_X6_isGhost : List (Nat × Instr × Nat) := [(0, .iload_n 1, 1), (1, .i2l, 1), (2, .lconst 0, 1), (3, .aload_n 0, 1), (4, .getfield 7, 3), (7, .bipush 20, 2), (9, .iaload, 1), (10, .iconst 1, 1), (11, .isub, 1), (12, .i2l, 1), (13, .invokestatic 71, 3), (16, .ireturn, 1)]
theorem tb_X6_isGhost : ∀ q ∈ tab_X6_isGhost, decode m_X6_isGhost.2.1 q.1 = .ok q.2 := by decide +kernel
def tab_X6_isClerk : List (Nat × Instr × Nat) := [(0, .iload_n 1, 1), (1, .i2l, 1), (2, .lconst 0, 1), (3, .aload_n 0, 1), (4, .getfield 66, 3), (7, .iconst 1, 1), (8, .isub, 1), (9, .i2l, 1), (10, .invokestatic 71, 3), (13, .ireturn, 1)]
theorem tb_X6_isClerk : ∀ q ∈ tab_X6_isClerk, decode m_X6_isClerk.2.1 q.1 = .ok q.2 := by decide +kernel
def tab_X6_isPart : List (Nat × Instr × Nat) := [(0, .iload_n 0, 1), (1, .i2l, 1), (2, .lconst 0, 1), (3, .lconst 1, 1), (4, .invokestatic 71, 3), (7, .ireturn, 1)]
theorem tb_X6_isPart : ∀ q ∈ tab_X6_isPart, decode m_X6_isPart.2.1 q.1 = .ok q.2 := by decide +kernel
def tab_X6_starts : List (Nat × Instr × Nat) := [(0, .iconst 0, 1), (1, .istore_n 1, 1), (2, .iload_n 1, 1), (3, .bipush 47, 2), (5, .if_icmp .ge 21, 3), (8, .aload_n 0, 1), (9, .getfield 13, 3), (12, .iload_n 1, 1), (13, .aload_n 0, 1), (14, .getfield 7, 3), (17, .iload_n 1, 1), (18, .iaload, 1), (19, .iastore, 1), (20, .iinc 1 1, 3), (23, .goto (-21), 3), (26, .iconst 0, 1), (27, .istore_n 1, 1), (28, .iload_n 1, 1), (29, .bipush 6, 2), (31, .if_icmp .ge 16, 3), (34, .aload_n 0, 1), (35, .getfield 29, 3), (38, .iload_n 1, 1), (39, .iconst 0, 1), (40, .iastore, 1), (41, .iinc 1 1, 3), (44, .goto (-16), 3), (47, .aload_n 0, 1), (48, .iconst 0, 1), (49, .putfield 140, 3), (52, .return_, 1)]
theorem tb_X6_starts : ∀ q ∈ tab_X6_starts, decode m_X6_starts.2.1 q.1 = .ok q.2 := by decide +kernel
def tab_X6_settles : List (Nat × Instr × Nat) := [(0, .iconst 0, 1), (1, .istore_n 1, 1), (2, .iload_n 1, 1), (3, .bipush 47, 2), (5, .if_icmp .ge 21, 3), (8, .aload_n 0, 1), (9, .getfield 7, 3), (12, .iload_n 1, 1), (13, .aload_n 0, 1), (14, .getfield 13, 3), (17, .iload_n 1, 1), (18, .iaload, 1), (19, .iastore, 1), (20, .iinc 1 1, 3), (23, .goto (-21), 3), (26, .return_, 1)]
theorem tb_X6_settles : ∀ q ∈ tab_X6_settles, decode m_X6_settles.2.1 q.1 = .ok q.2 := by decide +kernel
def tab_X6_of : List (Nat × Instr × Nat) := [(0, .aload_n 0, 1), (1, .getfield 13, 3), (4, .iconst 5, 1), (5, .iload_n 1, 1), (6, .imul, 1), (7, .iload_n 2, 1), (8, .iadd, 1), (9, .iaload, 1), (10, .ireturn, 1)]
theorem tb_X6_of : ∀ q ∈ tab_X6_of, decode m_X6_of.2.1 q.1 = .ok q.2 := by decide +kernel
def tab_X6_becomesOf : List (Nat × Instr × Nat) := [(0, .aload_n 0, 1), (1, .getfield 13, 3), (4, .iconst 5, 1), (5, .iload_n 1, 1), (6, .imul, 1), (7, .iload_n 2, 1), (8, .iadd, 1), (9, .iload_n 3, 1), (10, .iastore, 1), (11, .return_, 1)]
theorem tb_X6_becomesOf : ∀ q ∈ tab_X6_becomesOf, decode m_X6_becomesOf.2.1 q.1 = .ok q.2 := by decide +kernel
def tab_X6_answer : List (Nat × Instr × Nat) := [(0, .aload_n 0, 1), (1, .iload_n 1, 1), (2, .iconst 1, 1), (3, .invokevirtual 143, 3), (6, .istore_n 2, 1), (7, .aload_n 0, 1), (8, .iload_n 1, 1), (9, .iconst 2, 1), (10, .invokevirtual 143, 3), (13, .istore_n 3, 1), (14, .aload_n 0, 1), (15, .iload_n 1, 1), (16, .iconst 0, 1), (17, .invokevirtual 143, 3), (20, .tableswitch 51 1 3 #[28, 43, 47], 28), (48, .iload_n 2, 1), (49, .iload_n 3, 1), (50, .if_icmp .le 9, 3), (53, .iload_n 2, 1), (54, .iload_n 3, 1), (55, .isub, 1), (56, .goto 6, 3), (59, .iload_n 3, 1), (60, .iload_n 2, 1), (61, .isub, 1), (62, .ireturn, 1), (63, .iload_n 2, 1), (64, .iload_n 3, 1), (65, .imul, 1), (66, .ireturn, 1), (67, .iload_n 2, 1), (68, .iload_n 3, 1), (69, .idiv, 1), (70, .ireturn, 1), (71, .iload_n 2, 1), (72, .iload_n 3, 1), (73, .iadd, 1), (74, .ireturn, 1)]
theorem tb_X6_answer : ∀ q ∈ tab_X6_answer, decode m_X6_answer.2.1 q.1 = .ok q.2 := by decide +kernel
def tab_X6_steps : List (Nat × Instr × Nat) := [(0, .iconst 1, 1), (1, .istore_n 2, 1), (2, .aload_n 0, 1), (3, .iload_n 1, 1), (4, .invokevirtual 146, 3), (7, .bipush 10, 2), (9, .idiv, 1), (10, .istore_n 3, 1), (11, .iload_n 3, 1), (12, .ifCond .le 14, 3), (15, .iinc 2 1, 3), (18, .iload_n 3, 1), (19, .bipush 10, 2), (21, .idiv, 1), (22, .istore_n 3, 1), (23, .goto (-12), 3), (26, .aload_n 0, 1), (27, .iload_n 1, 1), (28, .iconst 0, 1), (29, .invokevirtual 143, 3), (32, .istore_n 3, 1), (33, .iload_n 3, 1), (34, .ifCond .ne 7, 3), (37, .iload_n 2, 1), (38, .goto 30, 3), (41, .iload_n 3, 1), (42, .iconst 1, 1), (43, .if_icmp .ne 9, 3), (46, .iload_n 2, 1), (47, .iconst 1, 1), (48, .iadd, 1), (49, .goto 19, 3), (52, .iload_n 3, 1), (53, .iconst 2, 1), (54, .if_icmp .ne 9, 3), (57, .iconst 2, 1), (58, .iload_n 2, 1), (59, .imul, 1), (60, .goto 8, 3), (63, .iconst 2, 1), (64, .iload_n 2, 1), (65, .imul, 1), (66, .iconst 1, 1), (67, .isub, 1), (68, .ireturn, 1)]
theorem tb_X6_steps : ∀ q ∈ tab_X6_steps, decode m_X6_steps.2.1 q.1 = .ok q.2 := by decide +kernel
def tab_X6_left : List (Nat × Instr × Nat) := [(0, .aload_n 0, 1), (1, .iload_n 1, 1), (2, .invokevirtual 149, 3), (5, .aload_n 0, 1), (6, .iload_n 1, 1), (7, .iconst 4, 1), (8, .invokevirtual 143, 3), (11, .isub, 1), (12, .istore_n 2, 1), (13, .iload_n 2, 1), (14, .ifCond .le 7, 3), (17, .iload_n 2, 1), (18, .goto 4, 3), (21, .iconst 0, 1), (22, .ireturn, 1)]
theorem tb_X6_left : ∀ q ∈ tab_X6_left, decode m_X6_left.2.1 q.1 = .ok q.2 := by decide +kernel
def tab_X6_sevens : List (Nat × Instr × Nat) := [(0, .iconst 0, 1), (1, .istore_n 1, 1), (2, .iload_n 0, 1), (3, .istore_n 2, 1), (4, .iload_n 2, 1), (5, .ifCond .le 31, 3), (8, .iload_n 1, 1), (9, .iload_n 2, 1), (10, .bipush 10, 2), (12, .irem, 1), (13, .bipush 7, 2), (15, .if_icmp .ne 7, 3), (18, .iconst 1, 1), (19, .goto 4, 3), (22, .iconst 0, 1), (23, .invokestatic 152, 3), (26, .iadd, 1), (27, .istore_n 1, 1), (28, .iload_n 2, 1), (29, .bipush 10, 2), (31, .idiv, 1), (32, .istore_n 2, 1), (33, .goto (-29), 3), (36, .iload_n 1, 1), (37, .ireturn, 1)]
theorem tb_X6_sevens : ∀ q ∈ tab_X6_sevens, decode m_X6_sevens.2.1 q.1 = .ok q.2 := by decide +kernel
def tab_X6_creaks : List (Nat × Instr × Nat) := [(0, .aload_n 0, 1), (1, .iload_n 1, 1), (2, .iconst 1, 1), (3, .invokevirtual 143, 3), (6, .invokestatic 156, 3), (9, .aload_n 0, 1), (10, .iload_n 1, 1), (11, .iconst 2, 1), (12, .invokevirtual 143, 3), (15, .invokestatic 156, 3), (18, .iadd, 1), (19, .aload_n 0, 1), (20, .iload_n 1, 1), (21, .invokevirtual 146, 3), (24, .invokestatic 156, 3), (27, .iadd, 1), (28, .ireturn, 1)]
theorem tb_X6_creaks : ∀ q ∈ tab_X6_creaks, decode m_X6_creaks.2.1 q.1 = .ok q.2 := by decide +kernel
def tab_X6_firstIn : List (Nat × Instr × Nat) := [(0, .iconst 0, 1), (1, .istore_n 2, 1), (2, .iload_n 2, 1), (3, .aload_n 0, 1), (4, .getfield 13, 3), (7, .bipush 20, 2), (9, .iaload, 1), (10, .if_icmp .ge 29, 3), (13, .aload_n 0, 1), (14, .iload_n 2, 1), (15, .iconst 3, 1), (16, .invokevirtual 143, 3), (19, .iload_n 1, 1), (20, .if_icmp .ne 13, 3), (23, .aload_n 0, 1), (24, .iload_n 2, 1), (25, .invokevirtual 159, 3), (28, .ifCond .le 5, 3), (31, .iload_n 2, 1), (32, .ireturn, 1), (33, .iinc 2 1, 3), (36, .goto (-34), 3), (39, .bipush (-4), 2), (41, .ireturn, 1)]
theorem tb_X6_firstIn : ∀ q ∈ tab_X6_firstIn, decode m_X6_firstIn.2.1 q.1 = .ok q.2 := by decide +kernel
def tab_X6_nightGoes : List (Nat × Instr × Nat) := [(0, .iconst 0, 1), (1, .istore_n 1, 1), (2, .iload_n 1, 1), (3, .aload_n 0, 1), (4, .getfield 66, 3), (7, .if_icmp .ge 82, 3), (10, .aload_n 0, 1), (11, .getfield 140, 3), (14, .iload_n 1, 1), (15, .ishr, 1), (16, .iconst 1, 1), (17, .iand, 1), (18, .iconst 1, 1), (19, .if_icmp .ne 8, 3), (22, .bipush (-4), 2), (24, .goto 18, 3), (27, .aload_n 0, 1), (28, .aload_n 0, 1), (29, .getfield 13, 3), (32, .bipush 21, 2), (34, .iconst 2, 1), (35, .iload_n 1, 1), (36, .imul, 1), (37, .iadd, 1), (38, .iaload, 1), (39, .invokevirtual 162, 3), (42, .istore_n 2, 1), (43, .iload_n 2, 1), (44, .bipush (-4), 2), (46, .if_icmp .eq 37, 3), (49, .aload_n 0, 1), (50, .iload_n 2, 1), (51, .iconst 4, 1), (52, .aload_n 0, 1), (53, .iload_n 2, 1), (54, .invokevirtual 149, 3), (57, .aload_n 0, 1), (58, .iload_n 2, 1), (59, .iconst 4, 1), (60, .invokevirtual 143, 3), (63, .aload_n 0, 1), (64, .getfield 13, 3), (67, .bipush 21, 2), (69, .iconst 2, 1), (70, .iload_n 1, 1), (71, .imul, 1), (72, .iadd, 1), (73, .iconst 1, 1), (74, .iadd, 1), (75, .iaload, 1), (76, .iadd, 1), (77, .invokestatic 165, 3), (80, .invokevirtual 168, 3), (83, .iinc 1 1, 3), (86, .goto (-84), 3), (89, .iconst 0, 1), (90, .istore_n 1, 1), (91, .iload_n 1, 1), (92, .aload_n 0, 1), (93, .getfield 13, 3), (96, .bipush 20, 2), (98, .iaload, 1), (99, .if_icmp .ge 57, 3), (102, .aload_n 0, 1), (103, .iload_n 1, 1), (104, .invokevirtual 159, 3), (107, .ifCond .le 43, 3), (110, .aload_n 0, 1), (111, .getfield 29, 3), (114, .aload_n 0, 1), (115, .iload_n 1, 1), (116, .iconst 3, 1), (117, .invokevirtual 143, 3), (120, .dup2, 1), (121, .iaload, 1), (122, .aload_n 0, 1), (123, .iload_n 1, 1), (124, .invokevirtual 159, 3), (127, .iadd, 1), (128, .iastore, 1), (129, .aload_n 0, 1), (130, .iload_n 1, 1), (131, .iconst 3, 1), (132, .aload_n 0, 1), (133, .iload_n 1, 1), (134, .iconst 3, 1), (135, .invokevirtual 143, 3), (138, .aload_n 0, 1), (139, .iload_n 1, 1), (140, .invokevirtual 146, 3), (143, .iadd, 1), (144, .bipush 6, 2), (146, .irem, 1), (147, .invokevirtual 168, 3), (150, .iinc 1 1, 3), (153, .goto (-62), 3), (156, .aload_n 0, 1), (157, .getfield 13, 3), (160, .bipush 27, 2), (162, .dup2, 1), (163, .iaload, 1), (164, .iconst 1, 1), (165, .iadd, 1), (166, .iastore, 1), (167, .return_, 1)]
theorem tb_X6_nightGoes : ∀ q ∈ tab_X6_nightGoes, decode m_X6_nightGoes.2.1 q.1 = .ok q.2 := by decide +kernel
def tab_X6_allHarm : List (Nat × Instr × Nat) := [(0, .iconst 0, 1), (1, .istore_n 1, 1), (2, .iconst 0, 1), (3, .istore_n 2, 1), (4, .iload_n 2, 1), (5, .bipush 6, 2), (7, .if_icmp .ge 18, 3), (10, .iload_n 1, 1), (11, .aload_n 0, 1), (12, .getfield 29, 3), (15, .iload_n 2, 1), (16, .iaload, 1), (17, .iadd, 1), (18, .istore_n 1, 1), (19, .iinc 2 1, 3), (22, .goto (-18), 3), (25, .iload_n 1, 1), (26, .ireturn, 1)]
theorem tb_X6_allHarm : ∀ q ∈ tab_X6_allHarm, decode m_X6_allHarm.2.1 q.1 = .ok q.2 := by decide +kernel
def tab_X6_harmOf : List (Nat × Instr × Nat) := [(0, .iconst 0, 1), (1, .istore_n 2, 1), (2, .iload_n 2, 1), (3, .iload_n 1, 1), (4, .if_icmp .ge 13, 3), (7, .aload_n 0, 1), (8, .invokevirtual 172, 3), (11, .iinc 2 1, 3), (14, .goto (-12), 3), (17, .aload_n 0, 1), (18, .invokevirtual 175, 3), (21, .ireturn, 1)]
theorem tb_X6_harmOf : ∀ q ∈ tab_X6_harmOf, decode m_X6_harmOf.2.1 q.1 = .ok q.2 := by decide +kernel
def tab_X6_resting : List (Nat × Instr × Nat) := [(0, .iconst 0, 1), (1, .istore_n 1, 1), (2, .iconst 0, 1), (3, .istore_n 2, 1), (4, .iload_n 2, 1), (5, .aload_n 0, 1), (6, .getfield 13, 3), (9, .bipush 20, 2), (11, .iaload, 1), (12, .if_icmp .ge 30, 3), (15, .iload_n 1, 1), (16, .aload_n 0, 1), (17, .iload_n 2, 1), (18, .invokevirtual 159, 3), (21, .ifCond .ne 7, 3), (24, .iconst 1, 1), (25, .goto 4, 3), (28, .iconst 0, 1), (29, .invokestatic 152, 3), (32, .iload_n 2, 1), (33, .ishl, 1), (34, .ior, 1), (35, .istore_n 1, 1), (36, .iinc 2 1, 3), (39, .goto (-35), 3), (42, .iload_n 1, 1), (43, .ireturn, 1)]
theorem tb_X6_resting : ∀ q ∈ tab_X6_resting, decode m_X6_resting.2.1 q.1 = .ok q.2 := by decide +kernel
def tab_X6_allLeft : List (Nat × Instr × Nat) := [(0, .iconst 0, 1), (1, .istore_n 1, 1), (2, .iconst 0, 1), (3, .istore_n 2, 1), (4, .iload_n 2, 1), (5, .aload_n 0, 1), (6, .getfield 13, 3), (9, .bipush 20, 2), (11, .iaload, 1), (12, .if_icmp .ge 17, 3), (15, .iload_n 1, 1), (16, .aload_n 0, 1), (17, .iload_n 2, 1), (18, .invokevirtual 159, 3), (21, .iadd, 1), (22, .istore_n 1, 1), (23, .iinc 2 1, 3), (26, .goto (-22), 3), (29, .iload_n 1, 1), (30, .ireturn, 1)]
theorem tb_X6_allLeft : ∀ q ∈ tab_X6_allLeft, decode m_X6_allLeft.2.1 q.1 = .ok q.2 := by decide +kernel
def tab_X6_rule : List (Nat × Instr × Nat) := [(0, .aload_n 0, 1), (1, .invokevirtual 178, 3), (4, .iconst 0, 1), (5, .istore_n 2, 1), (6, .iconst 0, 1), (7, .istore_n 3, 1), (8, .iload_n 3, 1), (9, .aload_n 0, 1), (10, .getfield 13, 3), (13, .bipush 20, 2), (15, .iaload, 1), (16, .if_icmp .ge 17, 3), (19, .iload_n 2, 1), (20, .aload_n 0, 1), (21, .iload_n 3, 1), (22, .invokevirtual 181, 3), (25, .iadd, 1), (26, .istore_n 2, 1), (27, .iinc 3 1, 3), (30, .goto (-22), 3), (33, .iload_n 1, 1), (34, .tableswitch 71 0 5 #[38, 46, 51, 59, 64, 69], 38), (72, .aload_n 0, 1), (73, .getfield 7, 3), (76, .bipush 20, 2), (78, .iaload, 1), (79, .ireturn, 1), (80, .aload_n 0, 1), (81, .getfield 66, 3), (84, .ireturn, 1), (85, .aload_n 0, 1), (86, .getfield 7, 3), (89, .bipush 27, 2), (91, .iaload, 1), (92, .ireturn, 1), (93, .aload_n 0, 1), (94, .invokevirtual 184, 3), (97, .ireturn, 1), (98, .aload_n 0, 1), (99, .invokevirtual 187, 3), (102, .ireturn, 1), (103, .iload_n 2, 1), (104, .ireturn, 1), (105, .iconst (-1), 1), (106, .ireturn, 1)]
theorem tb_X6_rule : ∀ q ∈ tab_X6_rule, decode m_X6_rule.2.1 q.1 = .ok q.2 := by decide +kernel
def tab_X6_ghost : List (Nat × Instr × Nat) := [(0, .aload_n 0, 1), (1, .iload_n 1, 1), (2, .invokevirtual 190, 3), (5, .ifCond .ne 5, 3), (8, .iconst (-1), 1), (9, .ireturn, 1), (10, .aload_n 0, 1), (11, .invokevirtual 178, 3), (14, .iload_n 2, 1), (15, .tableswitch 93 0 9 #[53, 53, 53, 53, 53, 60, 66, 72, 78, 87], 53), (68, .aload_n 0, 1), (69, .iload_n 1, 1), (70, .iload_n 2, 1), (71, .invokevirtual 143, 3), (74, .ireturn, 1), (75, .aload_n 0, 1), (76, .iload_n 1, 1), (77, .invokevirtual 146, 3), (80, .ireturn, 1), (81, .aload_n 0, 1), (82, .iload_n 1, 1), (83, .invokevirtual 149, 3), (86, .ireturn, 1), (87, .aload_n 0, 1), (88, .iload_n 1, 1), (89, .invokevirtual 159, 3), (92, .ireturn, 1), (93, .aload_n 0, 1), (94, .iload_n 1, 1), (95, .invokevirtual 146, 3), (98, .bipush 6, 2), (100, .irem, 1), (101, .ireturn, 1), (102, .aload_n 0, 1), (103, .iload_n 1, 1), (104, .invokevirtual 181, 3), (107, .ireturn, 1), (108, .iconst (-1), 1), (109, .ireturn, 1)]
theorem tb_X6_ghost : ∀ q ∈ tab_X6_ghost, decode m_X6_ghost.2.1 q.1 = .ok q.2 := by decide +kernel
def tab_X6_clerk : List (Nat × Instr × Nat) := [(0, .aload_n 0, 1), (1, .iload_n 1, 1), (2, .invokevirtual 194, 3), (5, .ifCond .eq 26, 3), (8, .iload_n 2, 1), (9, .invokestatic 197, 3), (12, .ifCond .eq 19, 3), (15, .aload_n 0, 1), (16, .getfield 7, 3), (19, .bipush 21, 2), (21, .iconst 2, 1), (22, .iload_n 1, 1), (23, .imul, 1), (24, .iadd, 1), (25, .iload_n 2, 1), (26, .iadd, 1), (27, .iaload, 1), (28, .goto 4, 3), (31, .iconst (-1), 1), (32, .ireturn, 1)]
theorem tb_X6_clerk : ∀ q ∈ tab_X6_clerk, decode m_X6_clerk.2.1 q.1 = .ok q.2 := by decide +kernel
def tab_X6_becomes : List (Nat × Instr × Nat) := [(0, .aload_n 0, 1), (1, .getfield 7, 3), (4, .iload_n 1, 1), (5, .iaload, 1), (6, .istore_n 3, 1), (7, .aload_n 0, 1), (8, .getfield 7, 3), (11, .iload_n 1, 1), (12, .iload_n 2, 1), (13, .iastore, 1), (14, .iload_n 3, 1), (15, .ireturn, 1)]
theorem tb_X6_becomes : ∀ q ∈ tab_X6_becomes, decode m_X6_becomes.2.1 q.1 = .ok q.2 := by decide +kernel
def tab_X6_canBe : List (Nat × Instr × Nat) := [(0, .iload_n 0, 1), (1, .tableswitch 75 0 4 #[35, 45, 45, 55, 65], 35), (36, .iload_n 1, 1), (37, .i2l, 1), (38, .lconst 0, 1), (39, .ldc2_w 200, 3), (42, .invokestatic 71, 3), (45, .ireturn, 1), (46, .iload_n 1, 1), (47, .i2l, 1), (48, .lconst 1, 1), (49, .ldc2_w 202, 3), (52, .invokestatic 71, 3), (55, .ireturn, 1), (56, .iload_n 1, 1), (57, .i2l, 1), (58, .lconst 0, 1), (59, .ldc2_w 204, 3), (62, .invokestatic 71, 3), (65, .ireturn, 1), (66, .iload_n 1, 1), (67, .i2l, 1), (68, .lconst 0, 1), (69, .ldc2_w 206, 3), (72, .invokestatic 71, 3), (75, .ireturn, 1), (76, .iconst 0, 1), (77, .ireturn, 1)]
theorem tb_X6_canBe : ∀ q ∈ tab_X6_canBe, decode m_X6_canBe.2.1 q.1 = .ok q.2 := by decide +kernel
def tab_X6_alter : List (Nat × Instr × Nat) := [(0, .aload_n 0, 1), (1, .iload_n 1, 1), (2, .invokevirtual 190, 3), (5, .ifCond .eq 24, 3), (8, .iload_n 2, 1), (9, .iload_n 3, 1), (10, .invokestatic 208, 3), (13, .ifCond .eq 16, 3), (16, .aload_n 0, 1), (17, .iconst 5, 1), (18, .iload_n 1, 1), (19, .imul, 1), (20, .iload_n 2, 1), (21, .iadd, 1), (22, .iload_n 3, 1), (23, .invokevirtual 212, 3), (26, .goto 4, 3), (29, .iconst (-1), 1), (30, .ireturn, 1)]
theorem tb_X6_alter : ∀ q ∈ tab_X6_alter, decode m_X6_alter.2.1 q.1 = .ok q.2 := by decide +kernel
def tab_X6_post : List (Nat × Instr × Nat) := [(0, .iload_n 2, 1), (1, .ifCond .ne 15, 3), (4, .iload_n 3, 1), (5, .i2l, 1), (6, .lconst 0, 1), (7, .ldc2_w 204, 3), (10, .invokestatic 71, 3), (13, .goto 25, 3), (16, .iload_n 2, 1), (17, .iconst 1, 1), (18, .if_icmp .ne 19, 3), (21, .iload_n 3, 1), (22, .i2l, 1), (23, .lconst 1, 1), (24, .ldc2_w 200, 3), (27, .invokestatic 71, 3), (30, .ifCond .eq 7, 3), (33, .iconst 1, 1), (34, .goto 4, 3), (37, .iconst 0, 1), (38, .istore 4, 2), (40, .aload_n 0, 1), (41, .iload_n 1, 1), (42, .invokevirtual 194, 3), (45, .ifCond .eq 24, 3), (48, .iload 4, 2), (50, .ifCond .eq 19, 3), (53, .aload_n 0, 1), (54, .bipush 21, 2), (56, .iconst 2, 1), (57, .iload_n 1, 1), (58, .imul, 1), (59, .iadd, 1), (60, .iload_n 2, 1), (61, .iadd, 1), (62, .iload_n 3, 1), (63, .invokevirtual 212, 3), (66, .goto 4, 3), (69, .iconst (-1), 1), (70, .ireturn, 1)]
theorem tb_X6_post : ∀ q ∈ tab_X6_post, decode m_X6_post.2.1 q.1 = .ok q.2 := by decide +kernel
def tab_X6_leave : List (Nat × Instr × Nat) := [(0, .iconst 0, 1), (1, .iload_n 1, 1), (2, .invokestatic 208, 3), (5, .ifCond .eq 28, 3), (8, .iconst 1, 1), (9, .iload_n 2, 1), (10, .invokestatic 208, 3), (13, .ifCond .eq 20, 3), (16, .iconst 2, 1), (17, .iload_n 3, 1), (18, .invokestatic 208, 3), (21, .ifCond .eq 12, 3), (24, .iconst 3, 1), (25, .iload 4, 2), (27, .invokestatic 208, 3), (30, .ifCond .ne 5, 3), (33, .iconst (-1), 1), (34, .ireturn, 1), (35, .aload_n 0, 1), (36, .getfield 7, 3), (39, .bipush 20, 2), (41, .iaload, 1), (42, .iconst 4, 1), (43, .if_icmp .ne 6, 3), (46, .bipush (-3), 2), (48, .ireturn, 1), (49, .iconst 5, 1), (50, .aload_n 0, 1), (51, .getfield 7, 3), (54, .bipush 20, 2), (56, .iaload, 1), (57, .imul, 1), (58, .istore 5, 2), (60, .aload_n 0, 1), (61, .getfield 7, 3), (64, .iload 5, 2), (66, .iconst 0, 1), (67, .iadd, 1), (68, .iload_n 1, 1), (69, .iastore, 1), (70, .aload_n 0, 1), (71, .getfield 7, 3), (74, .iload 5, 2), (76, .iconst 1, 1), (77, .iadd, 1), (78, .iload_n 2, 1), (79, .iastore, 1), (80, .aload_n 0, 1), (81, .getfield 7, 3), (84, .iload 5, 2), (86, .iconst 2, 1), (87, .iadd, 1), (88, .iload_n 3, 1), (89, .iastore, 1), (90, .aload_n 0, 1), (91, .getfield 7, 3), (94, .iload 5, 2), (96, .iconst 3, 1), (97, .iadd, 1), (98, .iload 4, 2), (100, .iastore, 1), (101, .aload_n 0, 1), (102, .getfield 7, 3), (105, .iload 5, 2), (107, .iconst 4, 1), (108, .iadd, 1), (109, .iconst 0, 1), (110, .iastore, 1), (111, .aload_n 0, 1), (112, .getfield 7, 3), (115, .bipush 20, 2), (117, .dup2, 1), (118, .iaload, 1), (119, .iconst 1, 1), (120, .iadd, 1), (121, .iastore, 1), (122, .aload_n 0, 1), (123, .getfield 7, 3), (126, .bipush 20, 2), (128, .iaload, 1), (129, .iconst 1, 1), (130, .isub, 1), (131, .ireturn, 1)]
theorem tb_X6_leave : ∀ q ∈ tab_X6_leave, decode m_X6_leave.2.1 q.1 = .ok q.2 := by decide +kernel
def tab_X6_nights : List (Nat × Instr × Nat) := [(0, .iload_n 1, 1), (1, .i2l, 1), (2, .lconst 0, 1), (3, .ldc2_w 215, 3), (6, .invokestatic 71, 3), (9, .ifCond .ne 5, 3), (12, .iconst (-1), 1), (13, .ireturn, 1), (14, .aload_n 0, 1), (15, .getfield 7, 3), (18, .bipush 27, 2), (20, .iaload, 1), (21, .iload_n 1, 1), (22, .iadd, 1), (23, .sipush 999, 3), (26, .if_icmp .le 6, 3), (29, .bipush (-3), 2), (31, .ireturn, 1), (32, .aload_n 0, 1), (33, .invokevirtual 178, 3), (36, .aload_n 0, 1), (37, .iload_n 1, 1), (38, .invokevirtual 217, 3), (41, .istore_n 2, 1), (42, .aload_n 0, 1), (43, .invokevirtual 220, 3), (46, .iload_n 2, 1), (47, .ireturn, 1)]
theorem tb_X6_nights : ∀ q ∈ tab_X6_nights, decode m_X6_nights.2.1 q.1 = .ok q.2 := by decide +kernel
def tab_X6_isFar : List (Nat × Instr × Nat) := [(0, .iload_n 0, 1), (1, .i2l, 1), (2, .lconst 0, 1), (3, .ldc2_w 223, 3), (6, .invokestatic 71, 3), (9, .ireturn, 1)]
theorem tb_X6_isFar : ∀ q ∈ tab_X6_isFar, decode m_X6_isFar.2.1 q.1 = .ok q.2 := by decide +kernel
def tab_X6_runs : List (Nat × Instr × Nat) := [(0, .iload_n 1, 1), (1, .invokestatic 225, 3), (4, .ifCond .eq 15, 3), (7, .iload_n 2, 1), (8, .i2l, 1), (9, .lconst 0, 1), (10, .ldc2_w 200, 3), (13, .invokestatic 71, 3), (16, .ifCond .ne 5, 3), (19, .iconst (-1), 1), (20, .ireturn, 1), (21, .bipush (-4), 2), (23, .istore_n 3, 1), (24, .aload_n 0, 1), (25, .invokevirtual 178, 3), (28, .iconst 0, 1), (29, .istore 4, 2), (31, .iload 4, 2), (33, .iload_n 1, 1), (34, .if_icmp .gt 39, 3), (37, .iload_n 3, 1), (38, .bipush (-4), 2), (40, .if_icmp .ne 15, 3), (43, .aload_n 0, 1), (44, .invokevirtual 187, 3), (47, .ifCond .ne 8, 3), (50, .iload 4, 2), (52, .goto 4, 3), (55, .iload_n 3, 1), (56, .istore_n 3, 1), (57, .iload 4, 2), (59, .iload_n 1, 1), (60, .if_icmp .ge 7, 3), (63, .aload_n 0, 1), (64, .invokevirtual 172, 3), (67, .iinc 4 1, 3), (70, .goto (-39), 3), (73, .iload_n 2, 1), (74, .ifCond .ne 10, 3), (77, .aload_n 0, 1), (78, .invokevirtual 175, 3), (81, .goto 28, 3), (84, .iload_n 2, 1), (85, .iconst 1, 1), (86, .if_icmp .ne 10, 3), (89, .aload_n 0, 1), (90, .invokevirtual 184, 3), (93, .goto 16, 3), (96, .iload_n 2, 1), (97, .iconst 2, 1), (98, .if_icmp .ne 10, 3), (101, .aload_n 0, 1), (102, .invokevirtual 187, 3), (105, .goto 4, 3), (108, .iload_n 3, 1), (109, .ireturn, 1)]
theorem tb_X6_runs : ∀ q ∈ tab_X6_runs, decode m_X6_runs.2.1 q.1 = .ok q.2 := by decide +kernel
def tab_X6_ahead : List (Nat × Instr × Nat) := [(0, .aload_n 0, 1), (1, .iload_n 1, 1), (2, .invokevirtual 190, 3), (5, .ifCond .eq 17, 3), (8, .iload_n 2, 1), (9, .invokestatic 225, 3), (12, .ifCond .eq 10, 3), (15, .iload_n 3, 1), (16, .invokestatic 197, 3), (19, .ifCond .ne 5, 3), (22, .iconst (-1), 1), (23, .ireturn, 1), (24, .aload_n 0, 1), (25, .invokevirtual 178, 3), (28, .aload_n 0, 1), (29, .iload_n 2, 1), (30, .invokevirtual 217, 3), (33, .pop, 1), (34, .iload_n 3, 1), (35, .ifCond .ne 12, 3), (38, .aload_n 0, 1), (39, .iload_n 1, 1), (40, .iconst 3, 1), (41, .invokevirtual 143, 3), (44, .goto 8, 3), (47, .aload_n 0, 1), (48, .iload_n 1, 1), (49, .invokevirtual 159, 3), (52, .ireturn, 1)]
theorem tb_X6_ahead : ∀ q ∈ tab_X6_ahead, decode m_X6_ahead.2.1 q.1 = .ok q.2 := by decide +kernel
def tab_X6_nightsTo : List (Nat × Instr × Nat) := [(0, .iconst 0, 1), (1, .istore_n 2, 1), (2, .iload_n 2, 1), (3, .bipush 60, 2), (5, .if_icmp .gt 23, 3), (8, .aload_n 0, 1), (9, .iload_n 1, 1), (10, .invokevirtual 159, 3), (13, .ifCond .ne 5, 3), (16, .iload_n 2, 1), (17, .ireturn, 1), (18, .aload_n 0, 1), (19, .invokevirtual 172, 3), (22, .iinc 2 1, 3), (25, .goto (-23), 3), (28, .bipush (-4), 2), (30, .ireturn, 1)]
theorem tb_X6_nightsTo : ∀ q ∈ tab_X6_nightsTo, decode m_X6_nightsTo.2.1 q.1 = .ok q.2 := by decide +kernel
def tab_X6_rests : List (Nat × Instr × Nat) := [(0, .aload_n 0, 1), (1, .iload_n 1, 1), (2, .invokevirtual 190, 3), (5, .ifCond .ne 5, 3), (8, .iconst (-1), 1), (9, .ireturn, 1), (10, .aload_n 0, 1), (11, .invokevirtual 178, 3), (14, .aload_n 0, 1), (15, .iload_n 1, 1), (16, .invokevirtual 228, 3), (19, .ireturn, 1)]
theorem tb_X6_rests : ∀ q ∈ tab_X6_rests, decode m_X6_rests.2.1 q.1 = .ok q.2 := by decide +kernel
def tab_X6_meets : List (Nat × Instr × Nat) := [(0, .aload_n 0, 1), (1, .iload_n 1, 1), (2, .invokevirtual 190, 3), (5, .ifCond .eq 11, 3), (8, .aload_n 0, 1), (9, .iload_n 2, 1), (10, .invokevirtual 194, 3), (13, .ifCond .ne 5, 3), (16, .iconst (-1), 1), (17, .ireturn, 1), (18, .aload_n 0, 1), (19, .invokevirtual 178, 3), (22, .iconst 0, 1), (23, .istore_n 3, 1), (24, .iload_n 3, 1), (25, .bipush 60, 2), (27, .if_icmp .gt 43, 3), (30, .aload_n 0, 1), (31, .iload_n 1, 1), (32, .invokevirtual 159, 3), (35, .ifCond .le 25, 3), (38, .aload_n 0, 1), (39, .iload_n 1, 1), (40, .iconst 3, 1), (41, .invokevirtual 143, 3), (44, .aload_n 0, 1), (45, .getfield 13, 3), (48, .bipush 21, 2), (50, .iconst 2, 1), (51, .iload_n 2, 1), (52, .imul, 1), (53, .iadd, 1), (54, .iaload, 1), (55, .if_icmp .ne 5, 3), (58, .iload_n 3, 1), (59, .ireturn, 1), (60, .aload_n 0, 1), (61, .invokevirtual 172, 3), (64, .iinc 3 1, 3), (67, .goto (-43), 3), (70, .bipush (-4), 2), (72, .ireturn, 1)]
theorem tb_X6_meets : ∀ q ∈ tab_X6_meets, decode m_X6_meets.2.1 q.1 = .ok q.2 := by decide +kernel
def tab_X6_harm : List (Nat × Instr × Nat) := [(0, .iload_n 1, 1), (1, .i2l, 1), (2, .lconst 0, 1), (3, .ldc2_w 204, 3), (6, .invokestatic 71, 3), (9, .ifCond .eq 10, 3), (12, .iload_n 2, 1), (13, .invokestatic 225, 3), (16, .ifCond .ne 5, 3), (19, .iconst (-1), 1), (20, .ireturn, 1), (21, .aload_n 0, 1), (22, .invokevirtual 178, 3), (25, .aload_n 0, 1), (26, .iload_n 2, 1), (27, .invokevirtual 217, 3), (30, .pop, 1), (31, .aload_n 0, 1), (32, .getfield 29, 3), (35, .iload_n 1, 1), (36, .iaload, 1), (37, .ireturn, 1)]
theorem tb_X6_harm : ∀ q ∈ tab_X6_harm, decode m_X6_harm.2.1 q.1 = .ok q.2 := by decide +kernel
def tab_X6_isJudged : List (Nat × Instr × Nat) := [(0, .iload_n 0, 1), (1, .i2l, 1), (2, .lconst 0, 1), (3, .ldc2_w 206, 3), (6, .invokestatic 71, 3), (9, .ireturn, 1)]
theorem tb_X6_isJudged : ∀ q ∈ tab_X6_isJudged, decode m_X6_isJudged.2.1 q.1 = .ok q.2 := by decide +kernel
def tab_X6_postsBy : List (Nat × Instr × Nat) := [(0, .iload_n 1, 1), (1, .istore_n 2, 1), (2, .aload_n 0, 1), (3, .getfield 66, 3), (6, .iconst 1, 1), (7, .isub, 1), (8, .istore_n 3, 1), (9, .iload_n 3, 1), (10, .ifCond .lt 29, 3), (13, .aload_n 0, 1), (14, .getfield 13, 3), (17, .bipush 21, 2), (19, .iconst 2, 1), (20, .iload_n 3, 1), (21, .imul, 1), (22, .iadd, 1), (23, .iload_n 2, 1), (24, .bipush 6, 2), (26, .irem, 1), (27, .iastore, 1), (28, .iload_n 2, 1), (29, .bipush 6, 2), (31, .idiv, 1), (32, .istore_n 2, 1), (33, .iinc 3 (-1), 3), (36, .goto (-27), 3), (39, .return_, 1)]
theorem tb_X6_postsBy : ∀ q ∈ tab_X6_postsBy, decode m_X6_postsBy.2.1 q.1 = .ok q.2 := by decide +kernel
def tab_X6_best : List (Nat × Instr × Nat) := [(0, .iload_n 1, 1), (1, .invokestatic 231, 3), (4, .ifCond .eq 18, 3), (7, .iload_n 2, 1), (8, .ifCond .eq 16, 3), (11, .aload_n 0, 1), (12, .iload_n 2, 1), (13, .bipush 10, 2), (15, .isub, 1), (16, .invokevirtual 194, 3), (19, .ifCond .ne 5, 3), (22, .iconst (-1), 1), (23, .ireturn, 1), (24, .iconst 1, 1), (25, .istore_n 3, 1), (26, .iconst 0, 1), (27, .istore 4, 2), (29, .iload 4, 2), (31, .aload_n 0, 1), (32, .getfield 66, 3), (35, .if_icmp .ge 14, 3), (38, .iload_n 3, 1), (39, .bipush 6, 2), (41, .imul, 1), (42, .istore_n 3, 1), (43, .iinc 4 1, 3), (46, .goto (-17), 3), (49, .ldc 234, 2), (51, .istore 4, 2), (53, .iconst 0, 1), (54, .istore 5, 2), (56, .iconst 0, 1), (57, .istore 6, 2), (59, .iload 6, 2), (61, .iload_n 3, 1), (62, .if_icmp .ge 51, 3), (65, .aload_n 0, 1), (66, .invokevirtual 178, 3), (69, .aload_n 0, 1), (70, .iload 6, 2), (72, .invokevirtual 235, 3), (75, .aload_n 0, 1), (76, .iload_n 1, 1), (77, .invokevirtual 217, 3), (80, .istore 7, 2), (82, .iload 7, 2), (84, .iload 4, 2), (86, .if_icmp .ge 8, 3), (89, .iload 6, 2), (91, .goto 5, 3), (94, .iload 5, 2), (96, .istore 5, 2), (98, .iload 7, 2), (100, .iload 4, 2), (102, .invokestatic 165, 3), (105, .istore 4, 2), (107, .iinc 6 1, 3), (110, .goto (-51), 3), (113, .aload_n 0, 1), (114, .iload 5, 2), (116, .invokevirtual 235, 3), (119, .iload_n 2, 1), (120, .ifCond .ne 8, 3), (123, .iload 4, 2), (125, .goto 17, 3), (128, .aload_n 0, 1), (129, .getfield 13, 3), (132, .bipush 21, 2), (134, .iconst 2, 1), (135, .iload_n 2, 1), (136, .bipush 10, 2), (138, .isub, 1), (139, .imul, 1), (140, .iadd, 1), (141, .iaload, 1), (142, .ireturn, 1)]
theorem tb_X6_best : ∀ q ∈ tab_X6_best, decode m_X6_best.2.1 q.1 = .ok q.2 := by decide +kernel
def tab_X6_learn : List (Nat × Instr × Nat) := [(0, .iload_n 1, 1), (1, .invokestatic 231, 3), (4, .ifCond .eq 10, 3), (7, .iload_n 2, 1), (8, .invokestatic 197, 3), (11, .ifCond .ne 5, 3), (14, .iconst (-1), 1), (15, .ireturn, 1), (16, .aload_n 0, 1), (17, .invokevirtual 178, 3), (20, .aload_n 0, 1), (21, .iload_n 1, 1), (22, .invokevirtual 217, 3), (25, .istore_n 3, 1), (26, .bipush (-4), 2), (28, .istore 4, 2), (30, .iconst 0, 1), (31, .istore 5, 2), (33, .iload 5, 2), (35, .aload_n 0, 1), (36, .getfield 66, 3), (39, .if_icmp .ge 78, 3), (42, .aload_n 0, 1), (43, .getfield 7, 3), (46, .bipush 21, 2), (48, .iconst 2, 1), (49, .iload 5, 2), (51, .imul, 1), (52, .iadd, 1), (53, .iconst 1, 1), (54, .iadd, 1), (55, .iaload, 1), (56, .iconst 3, 1), (57, .if_icmp .ge 54, 3), (60, .aload_n 0, 1), (61, .invokevirtual 178, 3), (64, .aload_n 0, 1), (65, .getfield 13, 3), (68, .bipush 21, 2), (70, .iconst 2, 1), (71, .iload 5, 2), (73, .imul, 1), (74, .iadd, 1), (75, .iconst 1, 1), (76, .iadd, 1), (77, .dup2, 1), (78, .iaload, 1), (79, .iconst 1, 1), (80, .iadd, 1), (81, .iastore, 1), (82, .aload_n 0, 1), (83, .iload_n 1, 1), (84, .invokevirtual 217, 3), (87, .istore 6, 2), (89, .iload 6, 2), (91, .iload_n 3, 1), (92, .if_icmp .ge 8, 3), (95, .iload 5, 2), (97, .goto 5, 3), (100, .iload 4, 2), (102, .istore 4, 2), (104, .iload 6, 2), (106, .iload_n 3, 1), (107, .invokestatic 165, 3), (110, .istore_n 3, 1), (111, .iinc 5 1, 3), (114, .goto (-81), 3), (117, .iload 4, 2), (119, .bipush (-4), 2), (121, .if_icmp .ne 8, 3), (124, .bipush (-4), 2), (126, .goto 13, 3), (129, .iload_n 2, 1), (130, .ifCond .ne 8, 3), (133, .iload 4, 2), (135, .goto 4, 3), (138, .iload_n 3, 1), (139, .ireturn, 1)]
theorem tb_X6_learn : ∀ q ∈ tab_X6_learn, decode m_X6_learn.2.1 q.1 = .ok q.2 := by decide +kernel
def tab_X6_quiet : List (Nat × Instr × Nat) := [(0, .iload_n 1, 1), (1, .invokestatic 225, 3), (4, .ifCond .eq 10, 3), (7, .iload_n 2, 1), (8, .invokestatic 197, 3), (11, .ifCond .ne 5, 3), (14, .iconst (-1), 1), (15, .ireturn, 1), (16, .aload_n 0, 1), (17, .invokevirtual 178, 3), (20, .aload_n 0, 1), (21, .iload_n 1, 1), (22, .invokevirtual 217, 3), (25, .pop, 1), (26, .iconst 0, 1), (27, .istore_n 3, 1), (28, .iconst 1, 1), (29, .istore 4, 2), (31, .iload 4, 2), (33, .bipush 6, 2), (35, .if_icmp .ge 32, 3), (38, .aload_n 0, 1), (39, .getfield 29, 3), (42, .iload 4, 2), (44, .iaload, 1), (45, .aload_n 0, 1), (46, .getfield 29, 3), (49, .iload_n 3, 1), (50, .iaload, 1), (51, .if_icmp .ge 8, 3), (54, .iload 4, 2), (56, .goto 4, 3), (59, .iload_n 3, 1), (60, .istore_n 3, 1), (61, .iinc 4 1, 3), (64, .goto (-33), 3), (67, .iload_n 2, 1), (68, .ifCond .ne 7, 3), (71, .iload_n 3, 1), (72, .goto 9, 3), (75, .aload_n 0, 1), (76, .getfield 29, 3), (79, .iload_n 3, 1), (80, .iaload, 1), (81, .ireturn, 1)]
theorem tb_X6_quiet : ∀ q ∈ tab_X6_quiet, decode m_X6_quiet.2.1 q.1 = .ok q.2 := by decide +kernel
def tab_X6_better : List (Nat × Instr × Nat) := [(0, .aload_n 0, 1), (1, .iload_n 1, 1), (2, .invokevirtual 190, 3), (5, .ifCond .eq 17, 3), (8, .iload_n 2, 1), (9, .invokestatic 231, 3), (12, .ifCond .eq 10, 3), (15, .iload_n 3, 1), (16, .invokestatic 197, 3), (19, .ifCond .ne 5, 3), (22, .iconst (-1), 1), (23, .ireturn, 1), (24, .ldc 234, 2), (26, .istore 4, 2), (28, .iconst 1, 1), (29, .istore 5, 2), (31, .iconst 1, 1), (32, .istore 6, 2), (34, .iload 6, 2), (36, .bipush 99, 2), (38, .if_icmp .gt 53, 3), (41, .aload_n 0, 1), (42, .invokevirtual 178, 3), (45, .aload_n 0, 1), (46, .iload_n 1, 1), (47, .iconst 2, 1), (48, .iload 6, 2), (50, .invokevirtual 168, 3), (53, .aload_n 0, 1), (54, .iload_n 2, 1), (55, .invokevirtual 217, 3), (58, .istore 7, 2), (60, .iload 7, 2), (62, .iload 4, 2), (64, .if_icmp .ge 8, 3), (67, .iload 6, 2), (69, .goto 5, 3), (72, .iload 5, 2), (74, .istore 5, 2), (76, .iload 7, 2), (78, .iload 4, 2), (80, .invokestatic 165, 3), (83, .istore 4, 2), (85, .iinc 6 1, 3), (88, .goto (-54), 3), (91, .iload_n 3, 1), (92, .ifCond .ne 8, 3), (95, .iload 5, 2), (97, .goto 5, 3), (100, .iload 4, 2), (102, .ireturn, 1)]
theorem tb_X6_better : ∀ q ∈ tab_X6_better, decode m_X6_better.2.1 q.1 = .ok q.2 := by decide +kernel
def tab_X6_from : List (Nat × Instr × Nat) := [(0, .aload_n 0, 1), (1, .iload_n 1, 1), (2, .invokevirtual 190, 3), (5, .ifCond .eq 10, 3), (8, .iload_n 2, 1), (9, .invokestatic 197, 3), (12, .ifCond .ne 5, 3), (15, .iconst (-1), 1), (16, .ireturn, 1), (17, .bipush 61, 2), (19, .istore_n 3, 1), (20, .bipush (-4), 2), (22, .istore 4, 2), (24, .iconst 0, 1), (25, .istore 5, 2), (27, .iload 5, 2), (29, .bipush 6, 2), (31, .if_icmp .ge 74, 3), (34, .aload_n 0, 1), (35, .invokevirtual 178, 3), (38, .aload_n 0, 1), (39, .iload_n 1, 1), (40, .iconst 3, 1), (41, .iload 5, 2), (43, .invokevirtual 168, 3), (46, .aload_n 0, 1), (47, .iload_n 1, 1), (48, .invokevirtual 228, 3), (51, .istore 6, 2), (53, .iload 6, 2), (55, .bipush (-4), 2), (57, .if_icmp .eq 13, 3), (60, .iload 6, 2), (62, .iload_n 3, 1), (63, .if_icmp .ge 7, 3), (66, .iconst 1, 1), (67, .goto 4, 3), (70, .iconst 0, 1), (71, .istore 7, 2), (73, .iload 7, 2), (75, .ifCond .eq 8, 3), (78, .iload 5, 2), (80, .goto 5, 3), (83, .iload 4, 2), (85, .istore 4, 2), (87, .iload 7, 2), (89, .ifCond .eq 8, 3), (92, .iload 6, 2), (94, .goto 4, 3), (97, .iload_n 3, 1), (98, .istore_n 3, 1), (99, .iinc 5 1, 3), (102, .goto (-75), 3), (105, .iload 4, 2), (107, .bipush (-4), 2), (109, .if_icmp .ne 8, 3), (112, .bipush (-4), 2), (114, .goto 13, 3), (117, .iload_n 2, 1), (118, .ifCond .ne 8, 3), (121, .iload 4, 2), (123, .goto 4, 3), (126, .iload_n 3, 1), (127, .ireturn, 1)]
theorem tb_X6_from : ∀ q ∈ tab_X6_from, decode m_X6_from.2.1 q.1 = .ok q.2 := by decide +kernel
def tab_X6_common : List (Nat × Instr × Nat) := [(0, .lload_n 0, 1), (1, .lstore 4, 2), (3, .lload_n 2, 1), (4, .lstore 6, 2), (6, .lload 6, 2), (8, .lconst 0, 1), (9, .lcmp, 1), (10, .ifCond .eq 21, 3), (13, .lload 4, 2), (15, .lload 6, 2), (17, .lrem, 1), (18, .lstore 8, 2), (20, .lload 6, 2), (22, .lstore 4, 2), (24, .lload 8, 2), (26, .lstore 6, 2), (28, .goto (-22), 3), (31, .lload 4, 2), (33, .lreturn, 1)]
theorem tb_X6_common : ∀ q ∈ tab_X6_common, decode m_X6_common.2.1 q.1 = .ok q.2 := by decide +kernel
def tab_X6_told : List (Nat × Instr × Nat) := [(0, .lload_n 2, 1), (1, .lload_n 0, 1), (2, .invokestatic 238, 3), (5, .lstore 5, 2), (7, .iload 4, 2), (9, .ifCond .ne 10, 3), (12, .lload_n 0, 1), (13, .lload 5, 2), (15, .ldiv, 1), (16, .goto 7, 3), (19, .lload_n 2, 1), (20, .lload 5, 2), (22, .ldiv, 1), (23, .lreturn, 1)]
theorem tb_X6_told : ∀ q ∈ tab_X6_told, decode m_X6_told.2.1 q.1 = .ok q.2 := by decide +kernel
def tab_X6_findOdds : List (Nat × Instr × Nat) := [(0, .aload_n 0, 1), (1, .lconst 0, 1), (2, .putfield 242, 3), (5, .aload_n 0, 1), (6, .lconst 0, 1), (7, .putfield 246, 3), (10, .aload_n 0, 1), (11, .lconst 1, 1), (12, .putfield 249, 3), (15, .iconst 0, 1), (16, .istore 4, 2), (18, .iload 4, 2), (20, .aload_n 0, 1), (21, .getfield 66, 3), (24, .if_icmp .ge 21, 3), (27, .aload_n 0, 1), (28, .dup, 1), (29, .getfield 249, 3), (32, .ldc2_w 252, 3), (35, .lmul, 1), (36, .putfield 249, 3), (39, .iinc 4 1, 3), (42, .goto (-24), 3), (45, .iconst 0, 1), (46, .istore 4, 2), (48, .iload 4, 2), (50, .iconst 1, 1), (51, .aload_n 0, 1), (52, .getfield 66, 3), (55, .ishl, 1), (56, .if_icmp .ge 111, 3), (59, .lconst 1, 1), (60, .lstore 5, 2), (62, .iconst 0, 1), (63, .istore 7, 2), (65, .iload 7, 2), (67, .aload_n 0, 1), (68, .getfield 66, 3), (71, .if_icmp .ge 35, 3), (74, .lload 5, 2), (76, .iload 4, 2), (78, .iload 7, 2), (80, .ishr, 1), (81, .iconst 1, 1), (82, .iand, 1), (83, .iconst 1, 1), (84, .if_icmp .ne 8, 3), (87, .iload_n 1, 1), (88, .i2l, 1), (89, .goto 8, 3), (92, .bipush 10, 2), (94, .iload_n 1, 1), (95, .isub, 1), (96, .i2l, 1), (97, .lmul, 1), (98, .lstore 5, 2), (100, .iinc 7 1, 3), (103, .goto (-38), 3), (106, .aload_n 0, 1), (107, .invokevirtual 178, 3), (110, .aload_n 0, 1), (111, .iload 4, 2), (113, .putfield 140, 3), (116, .aload_n 0, 1), (117, .dup, 1), (118, .getfield 246, 3), (121, .lload 5, 2), (123, .aload_n 0, 1), (124, .iload_n 3, 1), (125, .invokevirtual 217, 3), (128, .i2l, 1), (129, .lmul, 1), (130, .ladd, 1), (131, .putfield 246, 3), (134, .aload_n 0, 1), (135, .dup, 1), (136, .getfield 242, 3), (139, .aload_n 0, 1), (140, .invokevirtual 184, 3), (143, .iload_n 2, 1), (144, .ishr, 1), (145, .iconst 1, 1), (146, .iand, 1), (147, .iconst 1, 1), (148, .if_icmp .ne 8, 3), (151, .lload 5, 2), (153, .goto 4, 3), (156, .lconst 0, 1), (157, .ladd, 1), (158, .putfield 242, 3), (161, .iinc 4 1, 3), (164, .goto (-116), 3), (167, .return_, 1)]
theorem tb_X6_findOdds : ∀ q ∈ tab_X6_findOdds, decode m_X6_findOdds.2.1 q.1 = .ok q.2 := by decide +kernel
def tab_X6_luck : List (Nat × Instr × Nat) := [(0, .iload_n 1, 1), (1, .i2l, 1), (2, .lconst 0, 1), (3, .ldc2_w 252, 3), (6, .invokestatic 71, 3), (9, .ifCond .eq 26, 3), (12, .aload_n 0, 1), (13, .iload_n 2, 1), (14, .invokevirtual 190, 3), (17, .ifCond .eq 18, 3), (20, .iload_n 3, 1), (21, .invokestatic 225, 3), (24, .ifCond .eq 11, 3), (27, .iload 4, 2), (29, .invokestatic 197, 3), (32, .ifCond .ne 7, 3), (35, .ldc2_w 254, 3), (38, .lreturn, 1), (39, .aload_n 0, 1), (40, .iload_n 1, 1), (41, .iload_n 2, 1), (42, .iload_n 3, 1), (43, .invokevirtual 256, 3), (46, .aload_n 0, 1), (47, .getfield 242, 3), (50, .aload_n 0, 1), (51, .getfield 249, 3), (54, .iload 4, 2), (56, .invokestatic 259, 3), (59, .lreturn, 1)]
theorem tb_X6_luck : ∀ q ∈ tab_X6_luck, decode m_X6_luck.2.1 q.1 = .ok q.2 := by decide +kernel
def tab_X6_mean : List (Nat × Instr × Nat) := [(0, .iload_n 1, 1), (1, .i2l, 1), (2, .lconst 0, 1), (3, .ldc2_w 252, 3), (6, .invokestatic 71, 3), (9, .ifCond .eq 17, 3), (12, .iload_n 2, 1), (13, .invokestatic 225, 3), (16, .ifCond .eq 10, 3), (19, .iload_n 3, 1), (20, .invokestatic 197, 3), (23, .ifCond .ne 7, 3), (26, .ldc2_w 254, 3), (29, .lreturn, 1), (30, .aload_n 0, 1), (31, .iload_n 1, 1), (32, .iconst 0, 1), (33, .iload_n 2, 1), (34, .invokevirtual 256, 3), (37, .aload_n 0, 1), (38, .getfield 246, 3), (41, .aload_n 0, 1), (42, .getfield 249, 3), (45, .iload_n 3, 1), (46, .invokestatic 259, 3), (49, .lreturn, 1)]
theorem tb_X6_mean : ∀ q ∈ tab_X6_mean, decode m_X6_mean.2.1 q.1 = .ok q.2 := by decide +kernel
def tab_X6_see : List (Nat × Instr × Nat) := [(0, .aload_n 0, 1), (1, .iload_n 1, 1), (2, .invokevirtual 190, 3), (5, .ifCond .eq 27, 3), (8, .iload_n 2, 1), (9, .i2l, 1), (10, .lconst 0, 1), (11, .ldc2_w 206, 3), (14, .invokestatic 71, 3), (17, .ifCond .eq 15, 3), (20, .iload_n 3, 1), (21, .i2l, 1), (22, .lconst 0, 1), (23, .ldc2_w 204, 3), (26, .invokestatic 71, 3), (29, .ifCond .ne 5, 3), (32, .iconst (-1), 1), (33, .ireturn, 1), (34, .aload_n 0, 1), (35, .getfield 7, 3), (38, .bipush 28, 2), (40, .iaload, 1), (41, .bipush 6, 2), (43, .if_icmp .ne 6, 3), (46, .bipush (-3), 2), (48, .ireturn, 1), (49, .bipush 29, 2), (51, .iconst 3, 1), (52, .aload_n 0, 1), (53, .getfield 7, 3), (56, .bipush 28, 2), (58, .iaload, 1), (59, .imul, 1), (60, .iadd, 1), (61, .istore 4, 2), (63, .aload_n 0, 1), (64, .getfield 7, 3), (67, .iload 4, 2), (69, .iload_n 1, 1), (70, .iastore, 1), (71, .aload_n 0, 1), (72, .getfield 7, 3), (75, .iload 4, 2), (77, .iconst 1, 1), (78, .iadd, 1), (79, .iload_n 2, 1), (80, .iastore, 1), (81, .aload_n 0, 1), (82, .getfield 7, 3), (85, .iload 4, 2), (87, .iconst 2, 1), (88, .iadd, 1), (89, .iload_n 3, 1), (90, .iastore, 1), (91, .aload_n 0, 1), (92, .getfield 7, 3), (95, .bipush 28, 2), (97, .dup2, 1), (98, .iaload, 1), (99, .iconst 1, 1), (100, .iadd, 1), (101, .iastore, 1), (102, .aload_n 0, 1), (103, .getfield 7, 3), (106, .bipush 28, 2), (108, .iaload, 1), (109, .ireturn, 1)]
theorem tb_X6_see : ∀ q ∈ tab_X6_see, decode m_X6_see.2.1 q.1 = .ok q.2 := by decide +kernel
def tab_X6_forget : List (Nat × Instr × Nat) := [(0, .iload_n 1, 1), (1, .i2l, 1), (2, .lconst 0, 1), (3, .aload_n 0, 1), (4, .getfield 7, 3), (7, .bipush 28, 2), (9, .iaload, 1), (10, .i2l, 1), (11, .invokestatic 71, 3), (14, .ifCond .eq 13, 3), (17, .aload_n 0, 1), (18, .bipush 28, 2), (20, .iload_n 1, 1), (21, .invokevirtual 212, 3), (24, .goto 4, 3), (27, .iconst (-1), 1), (28, .ireturn, 1)]
theorem tb_X6_forget : ∀ q ∈ tab_X6_forget, decode m_X6_forget.2.1 q.1 = .ok q.2 := by decide +kernel
def tab_X6_isSoWith : List (Nat × Instr × Nat) := [(0, .aload_n 0, 1), (1, .invokevirtual 178, 3), (4, .aload_n 0, 1), (5, .iload_n 1, 1), (6, .iload_n 2, 1), (7, .iload_n 3, 1), (8, .invokevirtual 168, 3), (11, .iconst 0, 1), (12, .istore 4, 2), (14, .iload 4, 2), (16, .bipush 20, 2), (18, .if_icmp .gt 53, 3), (21, .iconst 0, 1), (22, .istore 5, 2), (24, .iload 5, 2), (26, .aload_n 0, 1), (27, .getfield 13, 3), (30, .bipush 20, 2), (32, .iaload, 1), (33, .if_icmp .ge 28, 3), (36, .aload_n 0, 1), (37, .getfield 32, 3), (40, .iconst 4, 1), (41, .iload 4, 2), (43, .imul, 1), (44, .iload 5, 2), (46, .iadd, 1), (47, .aload_n 0, 1), (48, .iload 5, 2), (50, .iconst 3, 1), (51, .invokevirtual 143, 3), (54, .iastore, 1), (55, .iinc 5 1, 3), (58, .goto (-34), 3), (61, .aload_n 0, 1), (62, .invokevirtual 172, 3), (65, .iinc 4 1, 3), (68, .goto (-54), 3), (71, .iconst 1, 1), (72, .istore 4, 2), (74, .iconst 0, 1), (75, .istore 5, 2), (77, .iload 5, 2), (79, .aload_n 0, 1), (80, .getfield 7, 3), (83, .bipush 28, 2), (85, .iaload, 1), (86, .if_icmp .ge 66, 3), (89, .bipush 29, 2), (91, .iconst 3, 1), (92, .iload 5, 2), (94, .imul, 1), (95, .iadd, 1), (96, .istore 6, 2), (98, .iload 4, 2), (100, .ifCond .eq 43, 3), (103, .aload_n 0, 1), (104, .getfield 32, 3), (107, .iconst 4, 1), (108, .aload_n 0, 1), (109, .getfield 7, 3), (112, .iload 6, 2), (114, .iconst 1, 1), (115, .iadd, 1), (116, .iaload, 1), (117, .imul, 1), (118, .aload_n 0, 1), (119, .getfield 7, 3), (122, .iload 6, 2), (124, .iaload, 1), (125, .iadd, 1), (126, .iaload, 1), (127, .aload_n 0, 1), (128, .getfield 7, 3), (131, .iload 6, 2), (133, .iconst 2, 1), (134, .iadd, 1), (135, .iaload, 1), (136, .if_icmp .ne 7, 3), (139, .iconst 1, 1), (140, .goto 4, 3), (143, .iconst 0, 1), (144, .istore 4, 2), (146, .iinc 5 1, 3), (149, .goto (-72), 3), (152, .iload 4, 2), (154, .ireturn, 1)]
theorem tb_X6_isSoWith : ∀ q ∈ tab_X6_isSoWith, decode m_X6_isSoWith.2.1 q.1 = .ok q.2 := by decide +kernel
def tab_X6_kinds : List (Nat × Instr × Nat) := [(0, .aload_n 0, 1), (1, .iload_n 1, 1), (2, .invokevirtual 190, 3), (5, .ifCond .ne 5, 3), (8, .iconst (-1), 1), (9, .ireturn, 1), (10, .iconst 0, 1), (11, .istore_n 2, 1), (12, .iconst 0, 1), (13, .istore_n 3, 1), (14, .iload_n 3, 1), (15, .iconst 4, 1), (16, .if_icmp .ge 24, 3), (19, .iload_n 2, 1), (20, .aload_n 0, 1), (21, .iload_n 1, 1), (22, .iconst 0, 1), (23, .iload_n 3, 1), (24, .invokevirtual 263, 3), (27, .invokestatic 152, 3), (30, .iload_n 3, 1), (31, .ishl, 1), (32, .ior, 1), (33, .istore_n 2, 1), (34, .iinc 3 1, 3), (37, .goto (-23), 3), (40, .iload_n 2, 1), (41, .ireturn, 1)]
theorem tb_X6_kinds : ∀ q ∈ tab_X6_kinds, decode m_X6_kinds.2.1 q.1 = .ok q.2 := by decide +kernel
def tab_X6_second : List (Nat × Instr × Nat) := [(0, .aload_n 0, 1), (1, .iload_n 1, 1), (2, .invokevirtual 190, 3), (5, .ifCond .eq 15, 3), (8, .iload_n 2, 1), (9, .i2l, 1), (10, .lconst 0, 1), (11, .ldc2_w 267, 3), (14, .invokestatic 71, 3), (17, .ifCond .ne 5, 3), (20, .iconst (-1), 1), (21, .ireturn, 1), (22, .iconst 0, 1), (23, .istore_n 3, 1), (24, .bipush (-4), 2), (26, .istore 4, 2), (28, .bipush (-4), 2), (30, .istore 5, 2), (32, .iconst 1, 1), (33, .istore 6, 2), (35, .iload 6, 2), (37, .bipush 99, 2), (39, .if_icmp .gt 40, 3), (42, .aload_n 0, 1), (43, .iload_n 1, 1), (44, .iconst 2, 1), (45, .iload 6, 2), (47, .invokevirtual 263, 3), (50, .ifCond .eq 23, 3), (53, .iload_n 3, 1), (54, .ifCond .ne 8, 3), (57, .iload 6, 2), (59, .goto 5, 3), (62, .iload 4, 2), (64, .istore 4, 2), (66, .iload 6, 2), (68, .istore 5, 2), (70, .iinc 3 1, 3), (73, .iinc 6 1, 3), (76, .goto (-41), 3), (79, .iload_n 2, 1), (80, .ifCond .ne 7, 3), (83, .iload_n 3, 1), (84, .goto 15, 3), (87, .iload_n 2, 1), (88, .iconst 1, 1), (89, .if_icmp .ne 8, 3), (92, .iload 4, 2), (94, .goto 5, 3), (97, .iload 5, 2), (99, .ireturn, 1)]
theorem tb_X6_second : ∀ q ∈ tab_X6_second, decode m_X6_second.2.1 q.1 = .ok q.2 := by decide +kernel
def tab_X6_look : List (Nat × Instr × Nat) := [(0, .aload_n 0, 1), (1, .iload_n 1, 1), (2, .invokevirtual 190, 3), (5, .ifCond .eq 10, 3), (8, .iload_n 2, 1), (9, .invokestatic 197, 3), (12, .ifCond .ne 5, 3), (15, .iconst (-1), 1), (16, .ireturn, 1), (17, .iconst 0, 1), (18, .istore_n 3, 1), (19, .bipush (-4), 2), (21, .istore 4, 2), (23, .iconst 0, 1), (24, .istore 5, 2), (26, .iload 5, 2), (28, .bipush 126, 2), (30, .if_icmp .ge 17, 3), (33, .aload_n 0, 1), (34, .getfield 35, 3), (37, .iload 5, 2), (39, .iconst 0, 1), (40, .iastore, 1), (41, .iinc 5 1, 3), (44, .goto (-18), 3), (47, .iconst 1, 1), (48, .istore 5, 2), (50, .iload 5, 2), (52, .bipush 99, 2), (54, .if_icmp .gt 65, 3), (57, .aload_n 0, 1), (58, .iload_n 1, 1), (59, .iconst 2, 1), (60, .iload 5, 2), (62, .invokevirtual 263, 3), (65, .ifCond .eq 48, 3), (68, .iinc 3 1, 3), (71, .iconst 0, 1), (72, .istore 6, 2), (74, .iload 6, 2), (76, .bipush 20, 2), (78, .if_icmp .gt 35, 3), (81, .aload_n 0, 1), (82, .getfield 35, 3), (85, .bipush 6, 2), (87, .iload 6, 2), (89, .imul, 1), (90, .aload_n 0, 1), (91, .getfield 32, 3), (94, .iconst 4, 1), (95, .iload 6, 2), (97, .imul, 1), (98, .iload_n 1, 1), (99, .iadd, 1), (100, .iaload, 1), (101, .iadd, 1), (102, .dup2, 1), (103, .iaload, 1), (104, .iconst 1, 1), (105, .iadd, 1), (106, .iastore, 1), (107, .iinc 6 1, 3), (110, .goto (-36), 3), (113, .iinc 5 1, 3), (116, .goto (-66), 3), (119, .iconst 0, 1), (120, .istore 5, 2), (122, .iload 5, 2), (124, .bipush 20, 2), (126, .if_icmp .gt 88, 3), (129, .iconst 0, 1), (130, .istore 6, 2), (132, .iconst 0, 1), (133, .istore 7, 2), (135, .iload 7, 2), (137, .bipush 6, 2), (139, .if_icmp .ge 47, 3), (142, .aload_n 0, 1), (143, .getfield 35, 3), (146, .bipush 6, 2), (148, .iload 5, 2), (150, .imul, 1), (151, .iload 7, 2), (153, .iadd, 1), (154, .iaload, 1), (155, .iload 6, 2), (157, .if_icmp .le 19, 3), (160, .aload_n 0, 1), (161, .getfield 35, 3), (164, .bipush 6, 2), (166, .iload 5, 2), (168, .imul, 1), (169, .iload 7, 2), (171, .iadd, 1), (172, .iaload, 1), (173, .goto 5, 3), (176, .iload 6, 2), (178, .istore 6, 2), (180, .iinc 7 1, 3), (183, .goto (-48), 3), (186, .iload 6, 2), (188, .iload_n 3, 1), (189, .if_icmp .ge 8, 3), (192, .iload 5, 2), (194, .goto 5, 3), (197, .iload 4, 2), (199, .istore 4, 2), (201, .iload 6, 2), (203, .iload_n 3, 1), (204, .invokestatic 165, 3), (207, .istore_n 3, 1), (208, .iinc 5 1, 3), (211, .goto (-89), 3), (214, .iload 4, 2), (216, .bipush (-4), 2), (218, .if_icmp .ne 8, 3), (221, .bipush (-4), 2), (223, .goto 13, 3), (226, .iload_n 2, 1), (227, .ifCond .ne 8, 3), (230, .iload 4, 2), (232, .goto 4, 3), (235, .iload_n 3, 1), (236, .ireturn, 1)]
theorem tb_X6_look : ∀ q ∈ tab_X6_look, decode m_X6_look.2.1 q.1 = .ok q.2 := by decide +kernel
def tab_X6_drift : List (Nat × Instr × Nat) := [(0, .iload_n 2, 1), (1, .i2l, 1), (2, .lconst 1, 1), (3, .ldc2_w 223, 3), (6, .invokestatic 71, 3), (9, .ifCond .eq 10, 3), (12, .iload_n 3, 1), (13, .invokestatic 197, 3), (16, .ifCond .ne 5, 3), (19, .iconst (-1), 1), (20, .ireturn, 1), (21, .aload_n 0, 1), (22, .getfield 66, 3), (25, .ifCond .ne 6, 3), (28, .bipush (-2), 2), (30, .ireturn, 1), (31, .iload_n 1, 1), (32, .istore 4, 2), (34, .aload_n 0, 1), (35, .invokevirtual 178, 3), (38, .iconst 0, 1), (39, .istore 5, 2), (41, .iload 5, 2), (43, .iload_n 2, 1), (44, .if_icmp .ge 61, 3), (47, .iload 4, 2), (49, .ldc_w 269, 3), (52, .imul, 1), (53, .sipush 12345, 3), (56, .iadd, 1), (57, .istore 4, 2), (59, .iload 4, 2), (61, .bipush 16, 2), (63, .ishr, 1), (64, .sipush 32767, 3), (67, .iand, 1), (68, .istore 6, 2), (70, .aload_n 0, 1), (71, .getfield 13, 3), (74, .bipush 21, 2), (76, .iconst 2, 1), (77, .iload 6, 2), (79, .aload_n 0, 1), (80, .getfield 66, 3), (83, .irem, 1), (84, .imul, 1), (85, .iadd, 1), (86, .iload 6, 2), (88, .bipush 8, 2), (90, .idiv, 1), (91, .bipush 6, 2), (93, .irem, 1), (94, .iastore, 1), (95, .aload_n 0, 1), (96, .invokevirtual 172, 3), (99, .iinc 5 1, 3), (102, .goto (-61), 3), (105, .iload_n 3, 1), (106, .ifCond .ne 10, 3), (109, .aload_n 0, 1), (110, .invokevirtual 175, 3), (113, .goto 7, 3), (116, .aload_n 0, 1), (117, .invokevirtual 184, 3), (120, .ireturn, 1)]
theorem tb_X6_drift : ∀ q ∈ tab_X6_drift, decode m_X6_drift.2.1 q.1 = .ok q.2 := by decide +kernel
def tab_X6_copies : List (Nat × Instr × Nat) := [(0, .iconst 0, 1), (1, .istore_n 3, 1), (2, .iload_n 3, 1), (3, .bipush 47, 2), (5, .if_icmp .ge 25, 3), (8, .aload_n 0, 1), (9, .getfield 7, 3), (12, .iload_n 1, 1), (13, .iload_n 3, 1), (14, .iadd, 1), (15, .aload_n 0, 1), (16, .getfield 7, 3), (19, .iload_n 2, 1), (20, .iload_n 3, 1), (21, .iadd, 1), (22, .iaload, 1), (23, .iastore, 1), (24, .iinc 3 1, 3), (27, .goto (-25), 3), (30, .return_, 1)]
theorem tb_X6_copies : ∀ q ∈ tab_X6_copies, decode m_X6_copies.2.1 q.1 = .ok q.2 := by decide +kernel
def tab_X6_keep : List (Nat × Instr × Nat) := [(0, .iload_n 1, 1), (1, .i2l, 1), (2, .lconst 0, 1), (3, .lconst 1, 1), (4, .invokestatic 71, 3), (7, .ifCond .ne 5, 3), (10, .iconst (-1), 1), (11, .ireturn, 1), (12, .aload_n 0, 1), (13, .getfield 16, 3), (16, .iload_n 1, 1), (17, .baload, 1), (18, .invokestatic 152, 3), (21, .istore_n 2, 1), (22, .aload_n 0, 1), (23, .getfield 16, 3), (26, .iload_n 1, 1), (27, .iconst 1, 1), (28, .bastore, 1), (29, .aload_n 0, 1), (30, .bipush 47, 2), (32, .iload_n 1, 1), (33, .iconst 1, 1), (34, .iadd, 1), (35, .imul, 1), (36, .iconst 0, 1), (37, .invokevirtual 270, 3), (40, .iload_n 2, 1), (41, .ireturn, 1)]
theorem tb_X6_keep : ∀ q ∈ tab_X6_keep, decode m_X6_keep.2.1 q.1 = .ok q.2 := by decide +kernel
def tab_X6_back : List (Nat × Instr × Nat) := [(0, .iload_n 1, 1), (1, .i2l, 1), (2, .lconst 0, 1), (3, .lconst 1, 1), (4, .invokestatic 71, 3), (7, .ifCond .ne 5, 3), (10, .iconst (-1), 1), (11, .ireturn, 1), (12, .aload_n 0, 1), (13, .getfield 16, 3), (16, .iload_n 1, 1), (17, .baload, 1), (18, .ifCond .ne 6, 3), (21, .bipush (-2), 2), (23, .ireturn, 1), (24, .aload_n 0, 1), (25, .iconst 0, 1), (26, .bipush 47, 2), (28, .iload_n 1, 1), (29, .iconst 1, 1), (30, .iadd, 1), (31, .imul, 1), (32, .invokevirtual 270, 3), (35, .aload_n 0, 1), (36, .getfield 7, 3), (39, .bipush 27, 2), (41, .iaload, 1), (42, .ireturn, 1)]
theorem tb_X6_back : ∀ q ∈ tab_X6_back, decode m_X6_back.2.1 q.1 = .ok q.2 := by decide +kernel
def tab_X6_isSheet : List (Nat × Instr × Nat) := [(0, .iload_n 0, 1), (1, .i2l, 1), (2, .lconst 0, 1), (3, .ldc2_w 200, 3), (6, .invokestatic 71, 3), (9, .ifCond .eq 19, 3), (12, .iload_n 1, 1), (13, .i2l, 1), (14, .lconst 0, 1), (15, .ldc2_w 267, 3), (18, .invokestatic 71, 3), (21, .ifCond .eq 7, 3), (24, .iconst 1, 1), (25, .goto 4, 3), (28, .iconst 0, 1), (29, .ireturn, 1)]
theorem tb_X6_isSheet : ∀ q ∈ tab_X6_isSheet, decode m_X6_isSheet.2.1 q.1 = .ok q.2 := by decide +kernel
def tab_X6_sheet : List (Nat × Instr × Nat) := [(0, .iload_n 1, 1), (1, .iload_n 2, 1), (2, .invokestatic 274, 3), (5, .ifCond .eq 9, 3), (8, .iload_n 3, 1), (9, .bipush 40, 2), (11, .if_icmp .le 5, 3), (14, .iconst (-1), 1), (15, .ireturn, 1), (16, .iload_n 3, 1), (17, .ifCond .ge 6, 3), (20, .bipush (-14), 2), (22, .ireturn, 1), (23, .aload_n 0, 1), (24, .getfield 38, 3), (27, .iload_n 1, 1), (28, .iload_n 2, 1), (29, .iastore, 1), (30, .aload_n 0, 1), (31, .getfield 41, 3), (34, .iload_n 1, 1), (35, .iload_n 3, 1), (36, .iastore, 1), (37, .iconst 0, 1), (38, .istore 4, 2), (40, .iload 4, 2), (42, .bipush 40, 2), (44, .if_icmp .ge 22, 3), (47, .aload_n 0, 1), (48, .getfield 44, 3), (51, .bipush 40, 2), (53, .iload_n 1, 1), (54, .imul, 1), (55, .iload 4, 2), (57, .iadd, 1), (58, .iconst 0, 1), (59, .iastore, 1), (60, .iinc 4 1, 3), (63, .goto (-23), 3), (66, .iconst 1, 1), (67, .ireturn, 1)]
theorem tb_X6_sheet : ∀ q ∈ tab_X6_sheet, decode m_X6_sheet.2.1 q.1 = .ok q.2 := by decide +kernel
def tab_X6_lay : List (Nat × Instr × Nat) := [(0, .iload_n 1, 1), (1, .iconst 0, 1), (2, .invokestatic 274, 3), (5, .ifCond .ne 5, 3), (8, .iconst (-1), 1), (9, .ireturn, 1), (10, .aload_n 0, 1), (11, .getfield 38, 3), (14, .iload_n 1, 1), (15, .iaload, 1), (16, .bipush (-4), 2), (18, .if_icmp .ne 6, 3), (21, .bipush (-11), 2), (23, .ireturn, 1), (24, .iload_n 2, 1), (25, .i2l, 1), (26, .lconst 0, 1), (27, .aload_n 0, 1), (28, .getfield 41, 3), (31, .iload_n 1, 1), (32, .iaload, 1), (33, .iconst 1, 1), (34, .isub, 1), (35, .i2l, 1), (36, .invokestatic 71, 3), (39, .ifCond .ne 6, 3), (42, .bipush (-12), 2), (44, .ireturn, 1), (45, .aload_n 0, 1), (46, .getfield 44, 3), (49, .bipush 40, 2), (51, .iload_n 1, 1), (52, .imul, 1), (53, .iload_n 2, 1), (54, .iadd, 1), (55, .aload_n 0, 1), (56, .getfield 38, 3), (59, .iload_n 1, 1), (60, .iaload, 1), (61, .ifCond .ne 8, 3), (64, .iload_n 3, 1), (65, .i2b, 1), (66, .goto 19, 3), (69, .aload_n 0, 1), (70, .getfield 38, 3), (73, .iload_n 1, 1), (74, .iaload, 1), (75, .iconst 1, 1), (76, .if_icmp .ne 8, 3), (79, .iload_n 3, 1), (80, .i2s, 1), (81, .goto 4, 3), (84, .iload_n 3, 1), (85, .iastore, 1), (86, .iconst 1, 1), (87, .ireturn, 1)]
theorem tb_X6_lay : ∀ q ∈ tab_X6_lay, decode m_X6_lay.2.1 q.1 = .ok q.2 := by decide +kernel
def tab_X6_read : List (Nat × Instr × Nat) := [(0, .iload_n 1, 1), (1, .iload_n 2, 1), (2, .invokestatic 274, 3), (5, .ifCond .eq 16, 3), (8, .iload 4, 2), (10, .i2l, 1), (11, .lconst 0, 1), (12, .ldc2_w 206, 3), (15, .invokestatic 71, 3), (18, .ifCond .ne 5, 3), (21, .iconst (-1), 1), (22, .ireturn, 1), (23, .iconst 0, 1), (24, .istore 5, 2), (26, .iload 5, 2), (28, .bipush 47, 2), (30, .if_icmp .ge 23, 3), (33, .aload_n 0, 1), (34, .getfield 47, 3), (37, .iload 5, 2), (39, .aload_n 0, 1), (40, .getfield 7, 3), (43, .iload 5, 2), (45, .iaload, 1), (46, .iastore, 1), (47, .iinc 5 1, 3), (50, .goto (-24), 3), (53, .iconst 0, 1), (54, .istore 5, 2), (56, .iconst 0, 1), (57, .istore 6, 2), (59, .iconst 0, 1), (60, .istore 7, 2), (62, .iload 7, 2), (64, .iload 4, 2), (66, .if_icmp .ge 193, 3), (69, .iload 5, 2), (71, .ifCond .ne 188, 3), (74, .iconst 0, 1), (75, .istore 8, 2), (77, .iload 8, 2), (79, .iconst 2, 1), (80, .if_icmp .ge 84, 3), (83, .iload 5, 2), (85, .ifCond .ne 79, 3), (88, .iload_n 3, 1), (89, .i2l, 1), (90, .iconst 2, 1), (91, .iload 7, 2), (93, .imul, 1), (94, .i2l, 1), (95, .ladd, 1), (96, .iload 8, 2), (98, .i2l, 1), (99, .ladd, 1), (100, .lstore 9, 2), (102, .aload_n 0, 1), (103, .getfield 38, 3), (106, .iload_n 1, 1), (107, .iaload, 1), (108, .bipush (-4), 2), (110, .if_icmp .ne 7, 3), (113, .iconst 1, 1), (114, .goto 42, 3), (117, .aload_n 0, 1), (118, .getfield 38, 3), (121, .iload_n 1, 1), (122, .iaload, 1), (123, .iload_n 2, 1), (124, .if_icmp .eq 7, 3), (127, .iconst 3, 1), (128, .goto 28, 3), (131, .lload 9, 2), (133, .lconst 0, 1), (134, .lcmp, 1), (135, .ifCond .lt 16, 3), (138, .lload 9, 2), (140, .aload_n 0, 1), (141, .getfield 41, 3), (144, .iload_n 1, 1), (145, .iaload, 1), (146, .i2l, 1), (147, .lcmp, 1), (148, .ifCond .lt 7, 3), (151, .iconst 2, 1), (152, .goto 4, 3), (155, .iconst 0, 1), (156, .istore 5, 2), (158, .iinc 8 1, 3), (161, .goto (-84), 3), (164, .iload 5, 2), (166, .ifCond .ne 87, 3), (169, .bipush 40, 2), (171, .iload_n 1, 1), (172, .imul, 1), (173, .iload_n 3, 1), (174, .iadd, 1), (175, .iconst 2, 1), (176, .iload 7, 2), (178, .imul, 1), (179, .iadd, 1), (180, .istore 8, 2), (182, .aload_n 0, 1), (183, .aload_n 0, 1), (184, .getfield 44, 3), (187, .iload 8, 2), (189, .iaload, 1), (190, .iconst 0, 1), (191, .aload_n 0, 1), (192, .getfield 44, 3), (195, .iload 8, 2), (197, .iconst 1, 1), (198, .iadd, 1), (199, .iaload, 1), (200, .invokevirtual 277, 3), (203, .ifCond .lt 11, 3), (206, .aload_n 0, 1), (207, .iconst 1, 1), (208, .invokevirtual 281, 3), (211, .ifCond .ge 39, 3), (214, .iconst 0, 1), (215, .istore 9, 2), (217, .iload 9, 2), (219, .bipush 47, 2), (221, .if_icmp .ge 23, 3), (224, .aload_n 0, 1), (225, .getfield 7, 3), (228, .iload 9, 2), (230, .aload_n 0, 1), (231, .getfield 47, 3), (234, .iload 9, 2), (236, .iaload, 1), (237, .iastore, 1), (238, .iinc 9 1, 3), (241, .goto (-24), 3), (244, .bipush (-20), 2), (246, .iload 7, 2), (248, .isub, 1), (249, .ireturn, 1), (250, .iinc 6 1, 3), (253, .iinc 7 1, 3), (256, .goto (-194), 3), (259, .aload_n 0, 1), (260, .iload 5, 2), (262, .putfield 284, 3), (265, .iload 6, 2), (267, .ireturn, 1)]
theorem tb_X6_read : ∀ q ∈ tab_X6_read, decode m_X6_read.2.1 q.1 = .ok q.2 := by decide +kernel
def tab_X6_torn : List (Nat × Instr × Nat) := [(0, .aload_n 0, 1), (1, .getfield 284, 3), (4, .ireturn, 1)]
theorem tb_X6_torn : ∀ q ∈ tab_X6_torn, decode m_X6_torn.2.1 q.1 = .ok q.2 := by decide +kernel
def tab_X6_count : List (Nat × Instr × Nat) := [(0, .iconst 0, 1), (1, .istore_n 2, 1), (2, .iconst 0, 1), (3, .istore_n 3, 1), (4, .iload_n 3, 1), (5, .aload_n 0, 1), (6, .getfield 66, 3), (9, .if_icmp .ge 25, 3), (12, .iload_n 2, 1), (13, .aload_n 0, 1), (14, .getfield 7, 3), (17, .bipush 21, 2), (19, .iconst 2, 1), (20, .iload_n 3, 1), (21, .imul, 1), (22, .iadd, 1), (23, .iconst 1, 1), (24, .iadd, 1), (25, .iaload, 1), (26, .iadd, 1), (27, .istore_n 2, 1), (28, .iinc 3 1, 3), (31, .goto (-27), 3), (34, .iload_n 1, 1), (35, .tableswitch 91 0 4 #[33, 41, 61, 66, 89], 33), (68, .aload_n 0, 1), (69, .getfield 7, 3), (72, .bipush 28, 2), (74, .iaload, 1), (75, .ireturn, 1), (76, .aload_n 0, 1), (77, .getfield 16, 3), (80, .iconst 0, 1), (81, .baload, 1), (82, .invokestatic 152, 3), (85, .aload_n 0, 1), (86, .getfield 16, 3), (89, .iconst 1, 1), (90, .baload, 1), (91, .invokestatic 152, 3), (94, .iadd, 1), (95, .ireturn, 1), (96, .aload_n 0, 1), (97, .getfield 75, 3), (100, .ireturn, 1), (101, .aload_n 0, 1), (102, .getfield 38, 3), (105, .iconst 0, 1), (106, .iaload, 1), (107, .bipush (-4), 2), (109, .if_icmp .ne 8, 3), (112, .bipush (-4), 2), (114, .goto 9, 3), (117, .aload_n 0, 1), (118, .getfield 41, 3), (121, .iconst 0, 1), (122, .iaload, 1), (123, .ireturn, 1), (124, .iload_n 2, 1), (125, .ireturn, 1), (126, .iconst (-1), 1), (127, .ireturn, 1)]
theorem tb_X6_count : ∀ q ∈ tab_X6_count, decode m_X6_count.2.1 q.1 = .ok q.2 := by decide +kernel
end
section
section HR3
variable {d : hs_M} {pc : Nat} {lv : List (Nat × Value)} {st : List Value} {σ : hs_St} {K : Option Value → hs_St → Prop}
theorem hr_nmi {v : Int32} (k : ∀ x : Int32, x = v → hs_Rn d pc lv (.int x :: st) σ K) : hs_Rn d pc lv (.int v :: st) σ K := k v rfl
theorem hr_nml {v : Int64} (k : ∀ x : Int64, x = v → hs_Rn d pc lv (.long x :: st) σ K) : hs_Rn d pc lv (.long v :: st) σ K := k v rfl
theorem hr_nms {v : hs_St} (k : ∀ τ : hs_St, τ = v → hs_Rn d pc lv st τ K) : hs_Rn d pc lv st v K := k v rfl
theorem hr_sub (ks : List Nat) {lv1 : List (Nat × Value)} (h : lv_pick lv ks = lv1) (k : hs_Rn d pc lv1 st σ K) : hs_Rn d pc lv st σ K := by
  intro p l e s m args below meth c G A C H locs ls hP hS hl
  refine k p l e s m args below meth c G A C H locs ls hP hS ⟨hl.1, hl.2.1, fun q hq => ?_⟩
  subst h
  obtain ⟨x, hx, rfl⟩ := List.mem_map.mp hq
  obtain ⟨i, -, hi⟩ := List.mem_filterMap.mp hx
  exact hl.2.2 _ (List.mem_map.mpr ⟨x, List.mem_of_getElem? hi, rfl⟩)
theorem hr_getI {idx ci j k : Nat} (hd : decode d.2.1 pc = .ok (.getfield idx, 3)) (hL : hs_FL d.1.cls idx ci j) (hX : hs_FX k ci j none) (kk : hs_Rn d (pc + 3) lv (.int (σ.1 k j) :: st) σ K) : hs_Rn d pc lv (.ref k :: st) σ K := hr_get hd hL hX kk
theorem hr_getL {idx ci j k : Nat} (hd : decode d.2.1 pc = .ok (.getfield idx, 3)) (hL : hs_FL d.1.cls idx ci j) (hX : hs_FX k ci j (some none)) (kk : hs_Rn d (pc + 3) lv (.long (σ.2 j) :: st) σ K) : hs_Rn d pc lv (.ref k :: st) σ K := hr_get hd hL hX kk
theorem hr_getR {idx ci j k r : Nat} (hd : decode d.2.1 pc = .ok (.getfield idx, 3)) (hL : hs_FL d.1.cls idx ci j) (hX : hs_FX k ci j (some (some r))) (kk : hs_Rn d (pc + 3) lv (.ref r :: st) σ K) : hs_Rn d pc lv (.ref k :: st) σ K := hr_get hd hL hX kk
theorem hr_ldc_w {idx : Nat} {v : Int32} (hd : decode d.2.1 pc = .ok (.ldc_w idx, 3)) (hw : Cond.constant d.1.cls idx v ∈ hs_U) (k : hs_Rn d (pc + 3) lv (.int v :: st) σ K) : hs_Rn d pc lv st σ K :=
  fun p l e s m args below meth c G A C H locs ls hP hS hl => lv_ldcw C.1 C.2.1 C.2.2.2.2.1 (hs_u C hw) hd (k p l e s m args below meth c G A C H locs ls hP hS hl)
theorem hr_lk2 {dflt a b o0 o1 : Int} {len t0 t1 tg : Nat} {x : Int32} (hd : decode d.2.1 pc = .ok (.lookupswitch dflt #[(a, o0), (b, o1)], len)) (hab : a < b) (h0 : (pc : Int) + o0 = (t0 : Int)) (h1 : (pc : Int) + o1 = (t1 : Int)) (h2 : (pc : Int) + dflt = (tg : Int))
    (k0 : x.toInt = a → hs_Rn d t0 lv st σ K) (k1 : x.toInt = b → hs_Rn d t1 lv st σ K) (kd : (¬ x.toInt = a ∧ ¬ x.toInt = b) → hs_Rn d tg lv st σ K) : hs_Rn d pc lv (.int x :: st) σ K := by
  intro p l e s m args below meth c G A C H locs ls hP hS hl
  have hp : ((#[(a, o0), (b, o1)] : Array (Int × Int)).toList.zip ((#[(a, o0), (b, o1)] : Array (Int × Int)).toList.drop 1)).all (fun (a, next) => a.1 < next.1) = true := by simp [hab]
  by_cases ha : x.toInt = a
  · exact lv_lookup (off := o0) C.1 C.2.1 hd hp (by simp [Op.lookupswitch.offset, ha]) h0 (k0 ha p l e s m args below meth c G A C H locs ls hP hS hl)
  · by_cases hb : x.toInt = b
    · have hn : ¬ b = a := by omega
      exact lv_lookup (off := o1) C.1 C.2.1 hd hp (by simp [Op.lookupswitch.offset, hb, hn, Ne.symm hn]) h1 (k1 hb p l e s m args below meth c G A C H locs ls hP hS hl)
    · exact lv_lookup (off := dflt) C.1 C.2.1 hd hp (by simp [Op.lookupswitch.offset, ha, hb, Ne.symm ha, Ne.symm hb]) h2 (kd ⟨ha, hb⟩ p l e s m args below meth c G A C H locs ls hP hS hl)
end HR3
end
section
set_option maxHeartbeats 4000000 in
set_option maxRecDepth 100000 in
theorem vc_X1_isOne {p0 : Int32} {σ : hs_St} {K : Bool → hs_St → Prop} (h : OkB m_X5_within [.int p0, .int 0, .int 3] σ (fun r1 σ2 => K r1 σ2)) : OkB m_X1_isOne [.ref 58, .int p0] σ K := hs_ok_of rfl (Nat.le_of_ble_eq_true rfl) (show hs_Rn m_X1_isOne 0 [(0, .ref 58), (1, .int p0)] [] σ _ from (hr_iload_n (hs_tb tb_X1_isOne 0 rfl) 1 rfl (hr_iconst (v := 0) (hs_tb tb_X1_isOne 1 rfl) rfl (hr_iconst (v := 3) (hs_tb tb_X1_isOne 2 rfl) rfl (hr_callN (y := m_X5_within) (As := [.int p0, .int 0, .int 3]) (st := []) (hs_tb tb_X1_isOne 3 rfl) mn_X1_21 cm_X5_within wt_X5_within rfl ⟨Nat.le_of_ble_eq_true rfl, Nat.le_of_ble_eq_true rfl, Nat.le_of_ble_eq_true rfl⟩ (OkB.go h (fun r1 σ2 h3 => (show hs_Rn m_X1_isOne 6 [(0, .ref 58), (1, .int p0)] [.int (hs_b r1)] σ2 _ from (hr_zret (hs_tb tb_X1_isOne 4 rfl) rfl rfl ⟨_, rfl, h3⟩)))))))))
set_option maxHeartbeats 4000000 in
set_option maxRecDepth 100000 in
theorem vc_X1_isLane {p0 : Int32} {σ : hs_St} {K : Bool → hs_St → Prop} (h : OkB m_X5_within [.int p0, .int 0, .int 2] σ (fun r1 σ2 => K r1 σ2)) : OkB m_X1_isLane [.ref 58, .int p0] σ K := hs_ok_of rfl (Nat.le_of_ble_eq_true rfl) (show hs_Rn m_X1_isLane 0 [(0, .ref 58), (1, .int p0)] [] σ _ from (hr_iload_n (hs_tb tb_X1_isLane 0 rfl) 1 rfl (hr_iconst (v := 0) (hs_tb tb_X1_isLane 1 rfl) rfl (hr_iconst (v := 2) (hs_tb tb_X1_isLane 2 rfl) rfl (hr_callN (y := m_X5_within) (As := [.int p0, .int 0, .int 2]) (st := []) (hs_tb tb_X1_isLane 3 rfl) mn_X1_21 cm_X5_within wt_X5_within rfl ⟨Nat.le_of_ble_eq_true rfl, Nat.le_of_ble_eq_true rfl, Nat.le_of_ble_eq_true rfl⟩ (OkB.go h (fun r1 σ2 h3 => (show hs_Rn m_X1_isLane 6 [(0, .ref 58), (1, .int p0)] [.int (hs_b r1)] σ2 _ from (hr_zret (hs_tb tb_X1_isLane 4 rfl) rfl rfl ⟨_, rfl, h3⟩)))))))))
set_option maxHeartbeats 4000000 in
set_option maxRecDepth 100000 in
theorem vc_X1_isNothing {p0 : Int32} {σ : hs_St} {K : Bool → hs_St → Prop} (h : vp_in p0 4 ∧ ((¬ (σ.1 59 (p0.toNatClampNeg)) = ((-1)) → (K false σ)) ∧ ((σ.1 59 (p0.toNatClampNeg)) = ((-1)) → (K true σ)))) : OkB m_X1_isNothing [.ref 58, .int p0] σ K := hs_ok_of rfl (Nat.le_of_ble_eq_true rfl) (show hs_Rn m_X1_isNothing 0 [(0, .ref 58), (1, .int p0)] [] σ _ from (hr_aload_n (hs_tb tb_X1_isNothing 0 rfl) 0 rfl (hr_getR (hs_tb tb_X1_isNothing 1 rfl) fl_X1_11 fx_58_0 (hr_iload_n (hs_tb tb_X1_isNothing 2 rfl) 1 rfl (hr_iald (hs_tb tb_X1_isNothing 3 rfl) ax_59 h.1 (hr_iconst (v := (-1)) (hs_tb tb_X1_isNothing 4 rfl) rfl (hr_icmp_ne (tgt := 14) (hs_tb tb_X1_isNothing 5 rfl) rfl (fun c1 => have h2 := h.2.1 c1; (hr_iconst (v := 0) (hs_tb tb_X1_isNothing 8 rfl) rfl (hr_zret (b := false) (hs_tb tb_X1_isNothing 9 rfl) rfl rfl ⟨_, rfl, h2⟩))) (fun c1 => have h3 := h.2.2 c1; (hr_iconst (v := 1) (hs_tb tb_X1_isNothing 6 rfl) rfl (hr_goto (tgt := 15) (hs_tb tb_X1_isNothing 7 rfl) rfl (hr_zret (b := true) (hs_tb tb_X1_isNothing 9 rfl) rfl rfl ⟨_, rfl, h3⟩)))))))))))
set_option maxHeartbeats 4000000 in
set_option maxRecDepth 100000 in
theorem vc_X1_renew_17 {a1 : Int32} {a2 : Int32} {a3 : Int32} {a4 : Int32} {σ : hs_St} {K : hs_St → Prop} (h : (a3 ≤ a4 → (K σ)) ∧ (¬ a3 ≤ a4 → (vp_in ((a1 * 40) + a4) 160 ∧ (∀ σ4 : hs_St, σ4 = hs_w σ 61 (((a1 * 40) + a4).toNatClampNeg) 0 → (RnV m_X1_renew 17 [(0, .ref 58), (1, .int a1), (2, .int a2), (3, .int a3), (4, .int (a4 + 1))] [] σ4 K))))) : RnV m_X1_renew 17 [(0, .ref 58), (1, .int a1), (2, .int a2), (3, .int a3), (4, .int a4)] [] σ K := (hr_iload (hs_tb tb_X1_renew 12 rfl) 4 rfl (hr_iload_n (hs_tb tb_X1_renew 13 rfl) 3 rfl (hr_icmp_ge (tgt := 42) (hs_tb tb_X1_renew 14 rfl) rfl (fun c1 => have h2 := h.1 c1; (hr_vret (hs_tb tb_X1_renew 26 rfl) rfl ⟨rfl, h2⟩)) (fun c1 => have h3 := h.2 c1; (hr_aload_n (hs_tb tb_X1_renew 15 rfl) 0 rfl (hr_getR (hs_tb tb_X1_renew 16 rfl) fl_X1_18 fx_58_2 (hr_iload_n (hs_tb tb_X1_renew 17 rfl) 1 rfl (hr_bipush (v := 40) (hs_tb tb_X1_renew 18 rfl) rfl (hr_imul (hs_tb tb_X1_renew 19 rfl) (hr_iload (hs_tb tb_X1_renew 20 rfl) 4 rfl (hr_iadd (hs_tb tb_X1_renew 21 rfl) (hr_iconst (v := 0) (hs_tb tb_X1_renew 22 rfl) rfl (hr_iast (hs_tb tb_X1_renew 23 rfl) ax_61 h3.1 (hr_nms (fun σ4 eσ4 => have h5 := h3.2 σ4 eσ4; (hr_iinc (v := a4 + 1) (lv1 := [(0, .ref 58), (1, .int a1), (2, .int a2), (3, .int a3), (4, .int (a4 + 1))]) (hs_tb tb_X1_renew 24 rfl) 4 rfl rfl (by decide) rfl rfl (hr_goto (tgt := 17) (hs_tb tb_X1_renew 25 rfl) rfl h5)))))))))))))))))
set_option maxHeartbeats 4000000 in
set_option maxRecDepth 100000 in
theorem vc_X1_renew {p0 : Int32} {p1 : Int32} {p2 : Int32} {σ : hs_St} {K : hs_St → Prop} (h : vp_in p0 4 ∧ (∀ σ1 : hs_St, σ1 = hs_w σ 59 (p0.toNatClampNeg) p1 → (∀ σ3 : hs_St, σ3 = hs_w σ1 60 (p0.toNatClampNeg) p2 → (RnV m_X1_renew 17 [(0, .ref 58), (1, .int p0), (2, .int p1), (3, .int p2), (4, .int 0)] [] σ3 K)))) : OkV m_X1_renew [.ref 58, .int p0, .int p1, .int p2] σ K := hs_ok_of rfl (Nat.le_of_ble_eq_true rfl) (show hs_Rn m_X1_renew 0 [(0, .ref 58), (1, .int p0), (2, .int p1), (3, .int p2)] [] σ _ from (hr_aload_n (hs_tb tb_X1_renew 0 rfl) 0 rfl (hr_getR (hs_tb tb_X1_renew 1 rfl) fl_X1_11 fx_58_0 (hr_iload_n (hs_tb tb_X1_renew 2 rfl) 1 rfl (hr_iload_n (hs_tb tb_X1_renew 3 rfl) 2 rfl (hr_iast (hs_tb tb_X1_renew 4 rfl) ax_59 h.1 (hr_nms (fun σ1 eσ1 => have h2 := h.2 σ1 eσ1; (hr_aload_n (hs_tb tb_X1_renew 5 rfl) 0 rfl (hr_getR (hs_tb tb_X1_renew 6 rfl) fl_X1_15 fx_58_1 (hr_iload_n (hs_tb tb_X1_renew 7 rfl) 1 rfl (hr_iload_n (hs_tb tb_X1_renew 8 rfl) 3 rfl (hr_iast (hs_tb tb_X1_renew 9 rfl) ax_60 h.1 (hr_nms (fun σ3 eσ3 => have h4 := h2 σ3 eσ3; (hr_iconst (v := 0) (hs_tb tb_X1_renew 10 rfl) rfl (hr_istore (lv1 := [(0, .ref 58), (1, .int p0), (2, .int p1), (3, .int p2), (4, .int 0)]) (hs_tb tb_X1_renew 11 rfl) (by decide) rfl rfl h4)))))))))))))))))
set_option maxHeartbeats 4000000 in
set_option maxRecDepth 100000 in
theorem vc_X1_faultOf {p0 : Int32} {p1 : Int32} {p2 : Int32} {σ : hs_St} {K : Int32 → hs_St → Prop} (h : OkB m_X1_isNothing [.ref 58, .int p0] σ (fun r1 σ2 => (r1 = false → (vp_in p0 4 ∧ (((σ2.1 59 (p0.toNatClampNeg)) = p1 → (OkB m_X5_within [.int p2, .int 0, .int ((σ2.1 60 (p0.toNatClampNeg)) - 1)] σ2 (fun r10 σ11 => (r10 = false → (K 2 σ11)) ∧ (r10 = true → (K 0 σ11))))) ∧ (¬ (σ2.1 59 (p0.toNatClampNeg)) = p1 → (K 3 σ2))))) ∧ (r1 = true → (K 1 σ2)))) : OkI m_X1_faultOf [.ref 58, .int p0, .int p1, .int p2] σ K := hs_ok_of rfl (Nat.le_of_ble_eq_true rfl) (show hs_Rn m_X1_faultOf 0 [(0, .ref 58), (1, .int p0), (2, .int p1), (3, .int p2)] [] σ _ from (hr_aload_n (hs_tb tb_X1_faultOf 0 rfl) 0 rfl (hr_iload_n (hs_tb tb_X1_faultOf 1 rfl) 1 rfl (hr_callV (y := m_X1_isNothing) (As := [.int p0]) (st := []) (k := 58) (hs_tb tb_X1_faultOf 2 rfl) ml_X1_25 cm_X1_isNothing cv_X1_isNothing rfl ⟨Nat.le_of_ble_eq_true rfl, Nat.le_of_ble_eq_true rfl, Nat.le_of_ble_eq_true rfl⟩ rfl rfl (OkB.go h (fun r1 σ2 h3 => (show hs_Rn m_X1_faultOf 5 [(0, .ref 58), (1, .int p0), (2, .int p1), (3, .int p2)] [.int (hs_b r1)] σ2 _ from (hr_ifb_eq (tgt := 10) (hs_tb tb_X1_faultOf 3 rfl) rfl (fun c4 => have h5 := h3.1 c4; (hr_aload_n (hs_tb tb_X1_faultOf 6 rfl) 0 rfl (hr_getR (hs_tb tb_X1_faultOf 7 rfl) fl_X1_11 fx_58_0 (hr_iload_n (hs_tb tb_X1_faultOf 8 rfl) 1 rfl (hr_iald (hs_tb tb_X1_faultOf 9 rfl) ax_59 h5.1 (hr_iload_n (hs_tb tb_X1_faultOf 10 rfl) 2 rfl (hr_icmp_eq (tgt := 22) (hs_tb tb_X1_faultOf 11 rfl) rfl (fun c7 => have h8 := h5.2.1 c7; (hr_iload_n (hs_tb tb_X1_faultOf 14 rfl) 3 rfl (hr_iconst (v := 0) (hs_tb tb_X1_faultOf 15 rfl) rfl (hr_aload_n (hs_tb tb_X1_faultOf 16 rfl) 0 rfl (hr_getR (hs_tb tb_X1_faultOf 17 rfl) fl_X1_15 fx_58_1 (hr_iload_n (hs_tb tb_X1_faultOf 18 rfl) 1 rfl (hr_iald (hs_tb tb_X1_faultOf 19 rfl) ax_60 h5.1 (hr_iconst (v := 1) (hs_tb tb_X1_faultOf 20 rfl) rfl (hr_isub (hs_tb tb_X1_faultOf 21 rfl) (hr_callN (y := m_X5_within) (As := [.int p2, .int 0, .int ((σ2.1 60 (p0.toNatClampNeg)) - 1)]) (st := []) (hs_tb tb_X1_faultOf 22 rfl) mn_X1_21 cm_X5_within wt_X5_within rfl ⟨Nat.le_of_ble_eq_true rfl, Nat.le_of_ble_eq_true rfl, Nat.le_of_ble_eq_true rfl⟩ (OkB.go h8 (fun r10 σ11 h12 => (show hs_Rn m_X1_faultOf 35 [(0, .ref 58), (1, .int p0), (2, .int p1), (3, .int p2)] [.int (hs_b r10)] σ11 _ from (hr_ifb_eq (tgt := 42) (hs_tb tb_X1_faultOf 23 rfl) rfl (fun c13 => have h14 := h12.1 c13; (hr_iconst (v := 2) (hs_tb tb_X1_faultOf 26 rfl) rfl (hr_iret (hs_tb tb_X1_faultOf 27 rfl) rfl ⟨_, rfl, h14⟩))) (fun c13 => have h15 := h12.2 c13; (hr_iconst (v := 0) (hs_tb tb_X1_faultOf 24 rfl) rfl (hr_goto (tgt := 43) (hs_tb tb_X1_faultOf 25 rfl) rfl (hr_iret (hs_tb tb_X1_faultOf 27 rfl) rfl ⟨_, rfl, h15⟩)))))))))))))))))) (fun c7 => have h9 := h5.2.2 c7; (hr_iconst (v := 3) (hs_tb tb_X1_faultOf 12 rfl) rfl (hr_iret (hs_tb tb_X1_faultOf 13 rfl) rfl ⟨_, rfl, h9⟩)))))))))) (fun c4 => have h6 := h3.2 c4; (hr_iconst (v := 1) (hs_tb tb_X1_faultOf 4 rfl) rfl (hr_iret (hs_tb tb_X1_faultOf 5 rfl) rfl ⟨_, rfl, h6⟩)))))))))))
set_option maxHeartbeats 4000000 in
set_option maxRecDepth 100000 in
theorem vc_X1_faultOfPair {p0 : Int32} {p1 : Int32} {p2 : Int32} {σ : hs_St} {K : Int32 → hs_St → Prop} (h : OkI m_X1_faultOf [.ref 58, .int p0, .int p1, .int p2] σ (fun r1 σ2 => (r1 = 0 → (OkI m_X1_faultOf [.ref 58, .int p0, .int p1, .int (p2 + 1)] σ2 (fun r7 σ8 => K r7 σ8))) ∧ (¬ r1 = 0 → (K r1 σ2)))) : OkI m_X1_faultOfPair [.ref 58, .int p0, .int p1, .int p2] σ K := hs_ok_of rfl (Nat.le_of_ble_eq_true rfl) (show hs_Rn m_X1_faultOfPair 0 [(0, .ref 58), (1, .int p0), (2, .int p1), (3, .int p2)] [] σ _ from (hr_aload_n (hs_tb tb_X1_faultOfPair 0 rfl) 0 rfl (hr_iload_n (hs_tb tb_X1_faultOfPair 1 rfl) 1 rfl (hr_iload_n (hs_tb tb_X1_faultOfPair 2 rfl) 2 rfl (hr_iload_n (hs_tb tb_X1_faultOfPair 3 rfl) 3 rfl (hr_callV (y := m_X1_faultOf) (As := [.int p0, .int p1, .int p2]) (st := []) (k := 58) (hs_tb tb_X1_faultOfPair 4 rfl) ml_X1_29 cm_X1_faultOf cv_X1_faultOf rfl ⟨Nat.le_of_ble_eq_true rfl, Nat.le_of_ble_eq_true rfl, Nat.le_of_ble_eq_true rfl⟩ rfl rfl (OkI.go h (fun r1 σ2 h3 => (show hs_Rn m_X1_faultOfPair 7 [(0, .ref 58), (1, .int p0), (2, .int p1), (3, .int p2)] [.int r1] σ2 _ from (hr_istore (lv1 := [(0, .ref 58), (1, .int p0), (2, .int p1), (3, .int p2), (4, .int r1)]) (hs_tb tb_X1_faultOfPair 5 rfl) (by decide) rfl rfl (hr_iload (hs_tb tb_X1_faultOfPair 6 rfl) 4 rfl (hr_if_eq (tgt := 19) (hs_tb tb_X1_faultOfPair 7 rfl) rfl (fun c4 => have h5 := h3.1 c4; (hr_aload_n (hs_tb tb_X1_faultOfPair 10 rfl) 0 rfl (hr_iload_n (hs_tb tb_X1_faultOfPair 11 rfl) 1 rfl (hr_iload_n (hs_tb tb_X1_faultOfPair 12 rfl) 2 rfl (hr_iload_n (hs_tb tb_X1_faultOfPair 13 rfl) 3 rfl (hr_iconst (v := 1) (hs_tb tb_X1_faultOfPair 14 rfl) rfl (hr_iadd (hs_tb tb_X1_faultOfPair 15 rfl) (hr_callV (y := m_X1_faultOf) (As := [.int p0, .int p1, .int (p2 + 1)]) (st := []) (k := 58) (hs_tb tb_X1_faultOfPair 16 rfl) ml_X1_29 cm_X1_faultOf cv_X1_faultOf rfl ⟨Nat.le_of_ble_eq_true rfl, Nat.le_of_ble_eq_true rfl, Nat.le_of_ble_eq_true rfl⟩ rfl rfl (OkI.go h5 (fun r7 σ8 h9 => (show hs_Rn m_X1_faultOfPair 28 [(0, .ref 58), (1, .int p0), (2, .int p1), (3, .int p2), (4, .int r1)] [.int r7] σ8 _ from (hr_iret (hs_tb tb_X1_faultOfPair 17 rfl) rfl ⟨_, rfl, h9⟩)))))))))))) (fun c4 => have h6 := h3.2 c4; (hr_iload (hs_tb tb_X1_faultOfPair 8 rfl) 4 rfl (hr_goto (tgt := 28) (hs_tb tb_X1_faultOfPair 9 rfl) rfl (hr_iret (hs_tb tb_X1_faultOfPair 17 rfl) rfl ⟨_, rfl, h6⟩))))))))))))))))
set_option maxHeartbeats 4000000 in
set_option maxRecDepth 100000 in
theorem vc_X1_cell {p0 : Int32} {p1 : Int32} {σ : hs_St} {K : Int32 → hs_St → Prop} (h : vp_in ((p0 * 40) + p1) 160 ∧ (K (σ.1 61 (((p0 * 40) + p1).toNatClampNeg)) σ)) : OkI m_X1_cell [.ref 58, .int p0, .int p1] σ K := hs_ok_of rfl (Nat.le_of_ble_eq_true rfl) (show hs_Rn m_X1_cell 0 [(0, .ref 58), (1, .int p0), (2, .int p1)] [] σ _ from (hr_aload_n (hs_tb tb_X1_cell 0 rfl) 0 rfl (hr_getR (hs_tb tb_X1_cell 1 rfl) fl_X1_18 fx_58_2 (hr_iload_n (hs_tb tb_X1_cell 2 rfl) 1 rfl (hr_bipush (v := 40) (hs_tb tb_X1_cell 3 rfl) rfl (hr_imul (hs_tb tb_X1_cell 4 rfl) (hr_iload_n (hs_tb tb_X1_cell 5 rfl) 2 rfl (hr_iadd (hs_tb tb_X1_cell 6 rfl) (hr_iald (hs_tb tb_X1_cell 7 rfl) ax_61 h.1 (hr_iret (hs_tb tb_X1_cell 8 rfl) rfl ⟨_, rfl, h.2⟩))))))))))
set_option maxHeartbeats 4000000 in
set_option maxRecDepth 100000 in
theorem vc_X1_put {p0 : Int32} {p1 : Int32} {p2 : Int32} {σ : hs_St} {K : hs_St → Prop} (h : vp_in p0 4 ∧ ((¬ (σ.1 59 (p0.toNatClampNeg)) = 0 → ((¬ (σ.1 59 (p0.toNatClampNeg)) = 1 → (vp_in ((p0 * 40) + p1) 160 ∧ (∀ σ7 : hs_St, σ7 = hs_w σ 61 (((p0 * 40) + p1).toNatClampNeg) p2 → (K σ7)))) ∧ ((σ.1 59 (p0.toNatClampNeg)) = 1 → (∀ x9 : Int32, x9 = p2.toInt16.toInt32 → (vp_in ((p0 * 40) + p1) 160 ∧ (∀ σ11 : hs_St, σ11 = hs_w σ 61 (((p0 * 40) + p1).toNatClampNeg) x9 → (K σ11))))))) ∧ ((σ.1 59 (p0.toNatClampNeg)) = 0 → (∀ x13 : Int32, x13 = p2.toInt8.toInt32 → (vp_in ((p0 * 40) + p1) 160 ∧ (∀ σ15 : hs_St, σ15 = hs_w σ 61 (((p0 * 40) + p1).toNatClampNeg) x13 → (K σ15))))))) : OkV m_X1_put [.ref 58, .int p0, .int p1, .int p2] σ K := hs_ok_of rfl (Nat.le_of_ble_eq_true rfl) (show hs_Rn m_X1_put 0 [(0, .ref 58), (1, .int p0), (2, .int p1), (3, .int p2)] [] σ _ from (hr_iload_n (hs_tb tb_X1_put 0 rfl) 3 rfl (hr_istore (lv1 := [(0, .ref 58), (1, .int p0), (2, .int p1), (3, .int p2), (4, .int p2)]) (hs_tb tb_X1_put 1 rfl) (by decide) rfl rfl (hr_aload_n (hs_tb tb_X1_put 2 rfl) 0 rfl (hr_getR (hs_tb tb_X1_put 3 rfl) fl_X1_11 fx_58_0 (hr_iload_n (hs_tb tb_X1_put 4 rfl) 1 rfl (hr_iald (hs_tb tb_X1_put 5 rfl) ax_59 h.1 (hr_if_ne (tgt := 19) (hs_tb tb_X1_put 6 rfl) rfl (fun c1 => have h2 := h.2.1 c1; (hr_aload_n (hs_tb tb_X1_put 11 rfl) 0 rfl (hr_getR (hs_tb tb_X1_put 12 rfl) fl_X1_11 fx_58_0 (hr_iload_n (hs_tb tb_X1_put 13 rfl) 1 rfl (hr_iald (hs_tb tb_X1_put 14 rfl) ax_59 h.1 (hr_iconst (v := 1) (hs_tb tb_X1_put 15 rfl) rfl (hr_icmp_ne (tgt := 33) (hs_tb tb_X1_put 16 rfl) rfl (fun c4 => have h5 := h2.1 c4; (hr_aload_n (hs_tb tb_X1_put 20 rfl) 0 rfl (hr_getR (hs_tb tb_X1_put 21 rfl) fl_X1_18 fx_58_2 (hr_iload_n (hs_tb tb_X1_put 22 rfl) 1 rfl (hr_bipush (v := 40) (hs_tb tb_X1_put 23 rfl) rfl (hr_imul (hs_tb tb_X1_put 24 rfl) (hr_iload_n (hs_tb tb_X1_put 25 rfl) 2 rfl (hr_iadd (hs_tb tb_X1_put 26 rfl) (hr_iload (hs_tb tb_X1_put 27 rfl) 4 rfl (hr_iast (hs_tb tb_X1_put 28 rfl) ax_61 h5.1 (hr_nms (fun σ7 eσ7 => have h8 := h5.2 σ7 eσ7; (hr_vret (hs_tb tb_X1_put 29 rfl) rfl ⟨rfl, h8⟩))))))))))))) (fun c4 => have h6 := h2.2 c4; (hr_iload_n (hs_tb tb_X1_put 17 rfl) 3 rfl (hr_i2s (hs_tb tb_X1_put 18 rfl) (hr_nmi (fun x9 ex9 => have h10 := h6 x9 ex9; (hr_istore (lv1 := [(0, .ref 58), (1, .int p0), (2, .int p1), (3, .int p2), (4, .int x9)]) (hs_tb tb_X1_put 19 rfl) (by decide) rfl rfl (hr_aload_n (hs_tb tb_X1_put 20 rfl) 0 rfl (hr_getR (hs_tb tb_X1_put 21 rfl) fl_X1_18 fx_58_2 (hr_iload_n (hs_tb tb_X1_put 22 rfl) 1 rfl (hr_bipush (v := 40) (hs_tb tb_X1_put 23 rfl) rfl (hr_imul (hs_tb tb_X1_put 24 rfl) (hr_iload_n (hs_tb tb_X1_put 25 rfl) 2 rfl (hr_iadd (hs_tb tb_X1_put 26 rfl) (hr_iload (hs_tb tb_X1_put 27 rfl) 4 rfl (hr_iast (hs_tb tb_X1_put 28 rfl) ax_61 h10.1 (hr_nms (fun σ11 eσ11 => have h12 := h10.2 σ11 eσ11; (hr_vret (hs_tb tb_X1_put 29 rfl) rfl ⟨rfl, h12⟩))))))))))))))))))))))))) (fun c1 => have h3 := h.2.2 c1; (hr_iload_n (hs_tb tb_X1_put 7 rfl) 3 rfl (hr_i2b (hs_tb tb_X1_put 8 rfl) (hr_nmi (fun x13 ex13 => have h14 := h3 x13 ex13; (hr_istore (lv1 := [(0, .ref 58), (1, .int p0), (2, .int p1), (3, .int p2), (4, .int x13)]) (hs_tb tb_X1_put 9 rfl) (by decide) rfl rfl (hr_goto (tgt := 33) (hs_tb tb_X1_put 10 rfl) rfl (hr_aload_n (hs_tb tb_X1_put 20 rfl) 0 rfl (hr_getR (hs_tb tb_X1_put 21 rfl) fl_X1_18 fx_58_2 (hr_iload_n (hs_tb tb_X1_put 22 rfl) 1 rfl (hr_bipush (v := 40) (hs_tb tb_X1_put 23 rfl) rfl (hr_imul (hs_tb tb_X1_put 24 rfl) (hr_iload_n (hs_tb tb_X1_put 25 rfl) 2 rfl (hr_iadd (hs_tb tb_X1_put 26 rfl) (hr_iload (hs_tb tb_X1_put 27 rfl) 4 rfl (hr_iast (hs_tb tb_X1_put 28 rfl) ax_61 h14.1 (hr_nms (fun σ15 eσ15 => have h16 := h14.2 σ15 eσ15; (hr_vret (hs_tb tb_X1_put 29 rfl) rfl ⟨rfl, h16⟩)))))))))))))))))))))))))))
set_option maxHeartbeats 4000000 in
set_option maxRecDepth 100000 in
theorem vc_X3_empty_22  {σ : hs_St} {K : hs_St → Prop} (h : ∀ σ1 : hs_St, σ1 = hs_w σ 22 0 0 → (∀ σ3 : hs_St, σ3 = hs_w σ1 22 6 0 → (∀ σ5 : hs_St, σ5 = hs_w σ3 22 9 0 → (∀ σ7 : hs_St, σ7 = hs_w σ5 22 10 0 → (K σ7))))) : OkV m_X3_empty [.ref 22] σ K := hs_ok_of rfl (Nat.le_of_ble_eq_true rfl) (show hs_Rn m_X3_empty 0 [(0, .ref 22)] [] σ _ from (hr_aload_n (hs_tb tb_X3_empty 0 rfl) 0 rfl (hr_iconst (v := 0) (hs_tb tb_X3_empty 1 rfl) rfl (hr_put (hs_tb tb_X3_empty 2 rfl) fl_X3_42 fx_22_0 fw_3_0 (hr_nms (fun σ1 eσ1 => have h2 := h σ1 eσ1; (hr_aload_n (hs_tb tb_X3_empty 3 rfl) 0 rfl (hr_iconst (v := 0) (hs_tb tb_X3_empty 4 rfl) rfl (hr_put (hs_tb tb_X3_empty 5 rfl) fl_X3_46 fx_22_6 fw_3_6 (hr_nms (fun σ3 eσ3 => have h4 := h2 σ3 eσ3; (hr_aload_n (hs_tb tb_X3_empty 6 rfl) 0 rfl (hr_iconst (v := 0) (hs_tb tb_X3_empty 7 rfl) rfl (hr_put (hs_tb tb_X3_empty 8 rfl) fl_X3_49 fx_22_9 fw_3_9 (hr_nms (fun σ5 eσ5 => have h6 := h4 σ5 eσ5; (hr_aload_n (hs_tb tb_X3_empty 9 rfl) 0 rfl (hr_iconst (v := 0) (hs_tb tb_X3_empty 10 rfl) rfl (hr_put (hs_tb tb_X3_empty 11 rfl) fl_X3_52 fx_22_10 fw_3_10 (hr_nms (fun σ7 eσ7 => have h8 := h6 σ7 eσ7; (hr_vret (hs_tb tb_X3_empty 12 rfl) rfl ⟨rfl, h8⟩))))))))))))))))))))))
set_option maxHeartbeats 4000000 in
set_option maxRecDepth 100000 in
theorem vc_X3_become_8_22  {σ : hs_St} {K : hs_St → Prop} (h : ∀ σ1 : hs_St, σ1 = hs_w σ 8 0 (σ.1 22 0) → (∀ σ3 : hs_St, σ3 = hs_ua σ1 9 (va_cpy (σ1.1 23) (σ1.1 9) 0 0 4) → (∀ σ5 : hs_St, σ5 = hs_ua σ3 10 (va_cpy (σ3.1 24) (σ3.1 10) 0 0 4) → (∀ σ7 : hs_St, σ7 = hs_ua σ5 11 (va_cpy (σ5.1 25) (σ5.1 11) 0 0 4) → (∀ σ9 : hs_St, σ9 = hs_ua σ7 12 (va_cpy (σ7.1 26) (σ7.1 12) 0 0 4) → (∀ σ11 : hs_St, σ11 = hs_ua σ9 13 (va_cpy (σ9.1 27) (σ9.1 13) 0 0 4) → (∀ σ13 : hs_St, σ13 = hs_w σ11 8 6 (σ11.1 22 6) → (∀ σ15 : hs_St, σ15 = hs_ua σ13 14 (va_cpy (σ13.1 28) (σ13.1 14) 0 0 3) → (∀ σ17 : hs_St, σ17 = hs_ua σ15 15 (va_cpy (σ15.1 29) (σ15.1 15) 0 0 3) → (∀ σ19 : hs_St, σ19 = hs_w σ17 8 9 (σ17.1 22 9) → (∀ σ21 : hs_St, σ21 = hs_w σ19 8 10 (σ19.1 22 10) → (∀ σ23 : hs_St, σ23 = hs_ua σ21 16 (va_cpy (σ21.1 30) (σ21.1 16) 0 0 6) → (∀ σ25 : hs_St, σ25 = hs_ua σ23 17 (va_cpy (σ23.1 31) (σ23.1 17) 0 0 6) → (∀ σ27 : hs_St, σ27 = hs_ua σ25 18 (va_cpy (σ25.1 32) (σ25.1 18) 0 0 6) → (K σ27))))))))))))))) : OkV m_X3_become [.ref 8, .ref 22] σ K := hs_ok_of rfl (Nat.le_of_ble_eq_true rfl) (show hs_Rn m_X3_become 0 [(0, .ref 8), (1, .ref 22)] [] σ _ from (hr_aload_n (hs_tb tb_X3_become 0 rfl) 0 rfl (hr_aload_n (hs_tb tb_X3_become 1 rfl) 1 rfl (hr_getI (hs_tb tb_X3_become 2 rfl) fl_X3_42 fx_22_0 (hr_put (hs_tb tb_X3_become 3 rfl) fl_X3_42 fx_8_0 fw_3_0 (hr_nms (fun σ1 eσ1 => have h2 := h σ1 eσ1; (hr_aload_n (hs_tb tb_X3_become 4 rfl) 1 rfl (hr_getR (hs_tb tb_X3_become 5 rfl) fl_X3_9 fx_22_1 (hr_iconst (v := 0) (hs_tb tb_X3_become 6 rfl) rfl (hr_aload_n (hs_tb tb_X3_become 7 rfl) 0 rfl (hr_getR (hs_tb tb_X3_become 8 rfl) fl_X3_9 fx_8_1 (hr_iconst (v := 0) (hs_tb tb_X3_become 9 rfl) rfl (hr_iconst (v := 4) (hs_tb tb_X3_become 10 rfl) rfl (hr_copy (hs_tb tb_X3_become 11 rfl) ml_X3_55 w_nat w_st_copy w_in_sys ax_23 ax_9 (by decide) (by decide) (Nat.le_of_ble_eq_true rfl) (Nat.le_of_ble_eq_true rfl) (hr_nms (fun σ3 eσ3 => have h4 := h2 σ3 eσ3; (hr_aload_n (hs_tb tb_X3_become 12 rfl) 1 rfl (hr_getR (hs_tb tb_X3_become 13 rfl) fl_X3_15 fx_22_2 (hr_iconst (v := 0) (hs_tb tb_X3_become 14 rfl) rfl (hr_aload_n (hs_tb tb_X3_become 15 rfl) 0 rfl (hr_getR (hs_tb tb_X3_become 16 rfl) fl_X3_15 fx_8_2 (hr_iconst (v := 0) (hs_tb tb_X3_become 17 rfl) rfl (hr_iconst (v := 4) (hs_tb tb_X3_become 18 rfl) rfl (hr_copy (hs_tb tb_X3_become 19 rfl) ml_X3_55 w_nat w_st_copy w_in_sys ax_24 ax_10 (by decide) (by decide) (Nat.le_of_ble_eq_true rfl) (Nat.le_of_ble_eq_true rfl) (hr_nms (fun σ5 eσ5 => have h6 := h4 σ5 eσ5; (hr_aload_n (hs_tb tb_X3_become 20 rfl) 1 rfl (hr_getR (hs_tb tb_X3_become 21 rfl) fl_X3_18 fx_22_3 (hr_iconst (v := 0) (hs_tb tb_X3_become 22 rfl) rfl (hr_aload_n (hs_tb tb_X3_become 23 rfl) 0 rfl (hr_getR (hs_tb tb_X3_become 24 rfl) fl_X3_18 fx_8_3 (hr_iconst (v := 0) (hs_tb tb_X3_become 25 rfl) rfl (hr_iconst (v := 4) (hs_tb tb_X3_become 26 rfl) rfl (hr_copy (hs_tb tb_X3_become 27 rfl) ml_X3_55 w_nat w_st_copy w_in_sys ax_25 ax_11 (by decide) (by decide) (Nat.le_of_ble_eq_true rfl) (Nat.le_of_ble_eq_true rfl) (hr_nms (fun σ7 eσ7 => have h8 := h6 σ7 eσ7; (hr_aload_n (hs_tb tb_X3_become 28 rfl) 1 rfl (hr_getR (hs_tb tb_X3_become 29 rfl) fl_X3_21 fx_22_4 (hr_iconst (v := 0) (hs_tb tb_X3_become 30 rfl) rfl (hr_aload_n (hs_tb tb_X3_become 31 rfl) 0 rfl (hr_getR (hs_tb tb_X3_become 32 rfl) fl_X3_21 fx_8_4 (hr_iconst (v := 0) (hs_tb tb_X3_become 33 rfl) rfl (hr_iconst (v := 4) (hs_tb tb_X3_become 34 rfl) rfl (hr_copy (hs_tb tb_X3_become 35 rfl) ml_X3_55 w_nat w_st_copy w_in_sys ax_26 ax_12 (by decide) (by decide) (Nat.le_of_ble_eq_true rfl) (Nat.le_of_ble_eq_true rfl) (hr_nms (fun σ9 eσ9 => have h10 := h8 σ9 eσ9; (hr_aload_n (hs_tb tb_X3_become 36 rfl) 1 rfl (hr_getR (hs_tb tb_X3_become 37 rfl) fl_X3_24 fx_22_5 (hr_iconst (v := 0) (hs_tb tb_X3_become 38 rfl) rfl (hr_aload_n (hs_tb tb_X3_become 39 rfl) 0 rfl (hr_getR (hs_tb tb_X3_become 40 rfl) fl_X3_24 fx_8_5 (hr_iconst (v := 0) (hs_tb tb_X3_become 41 rfl) rfl (hr_iconst (v := 4) (hs_tb tb_X3_become 42 rfl) rfl (hr_copy (hs_tb tb_X3_become 43 rfl) ml_X3_55 w_nat w_st_copy w_in_sys ax_27 ax_13 (by decide) (by decide) (Nat.le_of_ble_eq_true rfl) (Nat.le_of_ble_eq_true rfl) (hr_nms (fun σ11 eσ11 => have h12 := h10 σ11 eσ11; (hr_aload_n (hs_tb tb_X3_become 44 rfl) 0 rfl (hr_aload_n (hs_tb tb_X3_become 45 rfl) 1 rfl (hr_getI (hs_tb tb_X3_become 46 rfl) fl_X3_46 fx_22_6 (hr_put (hs_tb tb_X3_become 47 rfl) fl_X3_46 fx_8_6 fw_3_6 (hr_nms (fun σ13 eσ13 => have h14 := h12 σ13 eσ13; (hr_aload_n (hs_tb tb_X3_become 48 rfl) 1 rfl (hr_getR (hs_tb tb_X3_become 49 rfl) fl_X3_27 fx_22_7 (hr_iconst (v := 0) (hs_tb tb_X3_become 50 rfl) rfl (hr_aload_n (hs_tb tb_X3_become 51 rfl) 0 rfl (hr_getR (hs_tb tb_X3_become 52 rfl) fl_X3_27 fx_8_7 (hr_iconst (v := 0) (hs_tb tb_X3_become 53 rfl) rfl (hr_iconst (v := 3) (hs_tb tb_X3_become 54 rfl) rfl (hr_copy (hs_tb tb_X3_become 55 rfl) ml_X3_55 w_nat w_st_copy w_in_sys ax_28 ax_14 (by decide) (by decide) (Nat.le_of_ble_eq_true rfl) (Nat.le_of_ble_eq_true rfl) (hr_nms (fun σ15 eσ15 => have h16 := h14 σ15 eσ15; (hr_aload_n (hs_tb tb_X3_become 56 rfl) 1 rfl (hr_getR (hs_tb tb_X3_become 57 rfl) fl_X3_30 fx_22_8 (hr_iconst (v := 0) (hs_tb tb_X3_become 58 rfl) rfl (hr_aload_n (hs_tb tb_X3_become 59 rfl) 0 rfl (hr_getR (hs_tb tb_X3_become 60 rfl) fl_X3_30 fx_8_8 (hr_iconst (v := 0) (hs_tb tb_X3_become 61 rfl) rfl (hr_iconst (v := 3) (hs_tb tb_X3_become 62 rfl) rfl (hr_copy (hs_tb tb_X3_become 63 rfl) ml_X3_55 w_nat w_st_copy w_in_sys ax_29 ax_15 (by decide) (by decide) (Nat.le_of_ble_eq_true rfl) (Nat.le_of_ble_eq_true rfl) (hr_nms (fun σ17 eσ17 => have h18 := h16 σ17 eσ17; (hr_aload_n (hs_tb tb_X3_become 64 rfl) 0 rfl (hr_aload_n (hs_tb tb_X3_become 65 rfl) 1 rfl (hr_getI (hs_tb tb_X3_become 66 rfl) fl_X3_49 fx_22_9 (hr_put (hs_tb tb_X3_become 67 rfl) fl_X3_49 fx_8_9 fw_3_9 (hr_nms (fun σ19 eσ19 => have h20 := h18 σ19 eσ19; (hr_aload_n (hs_tb tb_X3_become 68 rfl) 0 rfl (hr_aload_n (hs_tb tb_X3_become 69 rfl) 1 rfl (hr_getI (hs_tb tb_X3_become 70 rfl) fl_X3_52 fx_22_10 (hr_put (hs_tb tb_X3_become 71 rfl) fl_X3_52 fx_8_10 fw_3_10 (hr_nms (fun σ21 eσ21 => have h22 := h20 σ21 eσ21; (hr_aload_n (hs_tb tb_X3_become 72 rfl) 1 rfl (hr_getR (hs_tb tb_X3_become 73 rfl) fl_X3_33 fx_22_11 (hr_iconst (v := 0) (hs_tb tb_X3_become 74 rfl) rfl (hr_aload_n (hs_tb tb_X3_become 75 rfl) 0 rfl (hr_getR (hs_tb tb_X3_become 76 rfl) fl_X3_33 fx_8_11 (hr_iconst (v := 0) (hs_tb tb_X3_become 77 rfl) rfl (hr_bipush (v := 6) (hs_tb tb_X3_become 78 rfl) rfl (hr_copy (hs_tb tb_X3_become 79 rfl) ml_X3_55 w_nat w_st_copy w_in_sys ax_30 ax_16 (by decide) (by decide) (Nat.le_of_ble_eq_true rfl) (Nat.le_of_ble_eq_true rfl) (hr_nms (fun σ23 eσ23 => have h24 := h22 σ23 eσ23; (hr_aload_n (hs_tb tb_X3_become 80 rfl) 1 rfl (hr_getR (hs_tb tb_X3_become 81 rfl) fl_X3_36 fx_22_12 (hr_iconst (v := 0) (hs_tb tb_X3_become 82 rfl) rfl (hr_aload_n (hs_tb tb_X3_become 83 rfl) 0 rfl (hr_getR (hs_tb tb_X3_become 84 rfl) fl_X3_36 fx_8_12 (hr_iconst (v := 0) (hs_tb tb_X3_become 85 rfl) rfl (hr_bipush (v := 6) (hs_tb tb_X3_become 86 rfl) rfl (hr_copy (hs_tb tb_X3_become 87 rfl) ml_X3_55 w_nat w_st_copy w_in_sys ax_31 ax_17 (by decide) (by decide) (Nat.le_of_ble_eq_true rfl) (Nat.le_of_ble_eq_true rfl) (hr_nms (fun σ25 eσ25 => have h26 := h24 σ25 eσ25; (hr_aload_n (hs_tb tb_X3_become 88 rfl) 1 rfl (hr_getR (hs_tb tb_X3_become 89 rfl) fl_X3_39 fx_22_13 (hr_iconst (v := 0) (hs_tb tb_X3_become 90 rfl) rfl (hr_aload_n (hs_tb tb_X3_become 91 rfl) 0 rfl (hr_getR (hs_tb tb_X3_become 92 rfl) fl_X3_39 fx_8_13 (hr_iconst (v := 0) (hs_tb tb_X3_become 93 rfl) rfl (hr_bipush (v := 6) (hs_tb tb_X3_become 94 rfl) rfl (hr_copy (hs_tb tb_X3_become 95 rfl) ml_X3_55 w_nat w_st_copy w_in_sys ax_32 ax_18 (by decide) (by decide) (Nat.le_of_ble_eq_true rfl) (Nat.le_of_ble_eq_true rfl) (hr_nms (fun σ27 eσ27 => have h28 := h26 σ27 eσ27; (hr_vret (hs_tb tb_X3_become 96 rfl) rfl ⟨rfl, h28⟩))))))))))))))))))))))))))))))))))))))))))))))))))))))))))))))))))))))))))))))))))))))))))))))))))))))))))))))))))))))))))))))
set_option maxHeartbeats 4000000 in
set_option maxRecDepth 100000 in
theorem vc_X3_become_35_8  {σ : hs_St} {K : hs_St → Prop} (h : ∀ σ1 : hs_St, σ1 = hs_w σ 35 0 (σ.1 8 0) → (∀ σ3 : hs_St, σ3 = hs_ua σ1 36 (va_cpy (σ1.1 9) (σ1.1 36) 0 0 4) → (∀ σ5 : hs_St, σ5 = hs_ua σ3 37 (va_cpy (σ3.1 10) (σ3.1 37) 0 0 4) → (∀ σ7 : hs_St, σ7 = hs_ua σ5 38 (va_cpy (σ5.1 11) (σ5.1 38) 0 0 4) → (∀ σ9 : hs_St, σ9 = hs_ua σ7 39 (va_cpy (σ7.1 12) (σ7.1 39) 0 0 4) → (∀ σ11 : hs_St, σ11 = hs_ua σ9 40 (va_cpy (σ9.1 13) (σ9.1 40) 0 0 4) → (∀ σ13 : hs_St, σ13 = hs_w σ11 35 6 (σ11.1 8 6) → (∀ σ15 : hs_St, σ15 = hs_ua σ13 41 (va_cpy (σ13.1 14) (σ13.1 41) 0 0 3) → (∀ σ17 : hs_St, σ17 = hs_ua σ15 42 (va_cpy (σ15.1 15) (σ15.1 42) 0 0 3) → (∀ σ19 : hs_St, σ19 = hs_w σ17 35 9 (σ17.1 8 9) → (∀ σ21 : hs_St, σ21 = hs_w σ19 35 10 (σ19.1 8 10) → (∀ σ23 : hs_St, σ23 = hs_ua σ21 43 (va_cpy (σ21.1 16) (σ21.1 43) 0 0 6) → (∀ σ25 : hs_St, σ25 = hs_ua σ23 44 (va_cpy (σ23.1 17) (σ23.1 44) 0 0 6) → (∀ σ27 : hs_St, σ27 = hs_ua σ25 45 (va_cpy (σ25.1 18) (σ25.1 45) 0 0 6) → (K σ27))))))))))))))) : OkV m_X3_become [.ref 35, .ref 8] σ K := hs_ok_of rfl (Nat.le_of_ble_eq_true rfl) (show hs_Rn m_X3_become 0 [(0, .ref 35), (1, .ref 8)] [] σ _ from (hr_aload_n (hs_tb tb_X3_become 0 rfl) 0 rfl (hr_aload_n (hs_tb tb_X3_become 1 rfl) 1 rfl (hr_getI (hs_tb tb_X3_become 2 rfl) fl_X3_42 fx_8_0 (hr_put (hs_tb tb_X3_become 3 rfl) fl_X3_42 fx_35_0 fw_3_0 (hr_nms (fun σ1 eσ1 => have h2 := h σ1 eσ1; (hr_aload_n (hs_tb tb_X3_become 4 rfl) 1 rfl (hr_getR (hs_tb tb_X3_become 5 rfl) fl_X3_9 fx_8_1 (hr_iconst (v := 0) (hs_tb tb_X3_become 6 rfl) rfl (hr_aload_n (hs_tb tb_X3_become 7 rfl) 0 rfl (hr_getR (hs_tb tb_X3_become 8 rfl) fl_X3_9 fx_35_1 (hr_iconst (v := 0) (hs_tb tb_X3_become 9 rfl) rfl (hr_iconst (v := 4) (hs_tb tb_X3_become 10 rfl) rfl (hr_copy (hs_tb tb_X3_become 11 rfl) ml_X3_55 w_nat w_st_copy w_in_sys ax_9 ax_36 (by decide) (by decide) (Nat.le_of_ble_eq_true rfl) (Nat.le_of_ble_eq_true rfl) (hr_nms (fun σ3 eσ3 => have h4 := h2 σ3 eσ3; (hr_aload_n (hs_tb tb_X3_become 12 rfl) 1 rfl (hr_getR (hs_tb tb_X3_become 13 rfl) fl_X3_15 fx_8_2 (hr_iconst (v := 0) (hs_tb tb_X3_become 14 rfl) rfl (hr_aload_n (hs_tb tb_X3_become 15 rfl) 0 rfl (hr_getR (hs_tb tb_X3_become 16 rfl) fl_X3_15 fx_35_2 (hr_iconst (v := 0) (hs_tb tb_X3_become 17 rfl) rfl (hr_iconst (v := 4) (hs_tb tb_X3_become 18 rfl) rfl (hr_copy (hs_tb tb_X3_become 19 rfl) ml_X3_55 w_nat w_st_copy w_in_sys ax_10 ax_37 (by decide) (by decide) (Nat.le_of_ble_eq_true rfl) (Nat.le_of_ble_eq_true rfl) (hr_nms (fun σ5 eσ5 => have h6 := h4 σ5 eσ5; (hr_aload_n (hs_tb tb_X3_become 20 rfl) 1 rfl (hr_getR (hs_tb tb_X3_become 21 rfl) fl_X3_18 fx_8_3 (hr_iconst (v := 0) (hs_tb tb_X3_become 22 rfl) rfl (hr_aload_n (hs_tb tb_X3_become 23 rfl) 0 rfl (hr_getR (hs_tb tb_X3_become 24 rfl) fl_X3_18 fx_35_3 (hr_iconst (v := 0) (hs_tb tb_X3_become 25 rfl) rfl (hr_iconst (v := 4) (hs_tb tb_X3_become 26 rfl) rfl (hr_copy (hs_tb tb_X3_become 27 rfl) ml_X3_55 w_nat w_st_copy w_in_sys ax_11 ax_38 (by decide) (by decide) (Nat.le_of_ble_eq_true rfl) (Nat.le_of_ble_eq_true rfl) (hr_nms (fun σ7 eσ7 => have h8 := h6 σ7 eσ7; (hr_aload_n (hs_tb tb_X3_become 28 rfl) 1 rfl (hr_getR (hs_tb tb_X3_become 29 rfl) fl_X3_21 fx_8_4 (hr_iconst (v := 0) (hs_tb tb_X3_become 30 rfl) rfl (hr_aload_n (hs_tb tb_X3_become 31 rfl) 0 rfl (hr_getR (hs_tb tb_X3_become 32 rfl) fl_X3_21 fx_35_4 (hr_iconst (v := 0) (hs_tb tb_X3_become 33 rfl) rfl (hr_iconst (v := 4) (hs_tb tb_X3_become 34 rfl) rfl (hr_copy (hs_tb tb_X3_become 35 rfl) ml_X3_55 w_nat w_st_copy w_in_sys ax_12 ax_39 (by decide) (by decide) (Nat.le_of_ble_eq_true rfl) (Nat.le_of_ble_eq_true rfl) (hr_nms (fun σ9 eσ9 => have h10 := h8 σ9 eσ9; (hr_aload_n (hs_tb tb_X3_become 36 rfl) 1 rfl (hr_getR (hs_tb tb_X3_become 37 rfl) fl_X3_24 fx_8_5 (hr_iconst (v := 0) (hs_tb tb_X3_become 38 rfl) rfl (hr_aload_n (hs_tb tb_X3_become 39 rfl) 0 rfl (hr_getR (hs_tb tb_X3_become 40 rfl) fl_X3_24 fx_35_5 (hr_iconst (v := 0) (hs_tb tb_X3_become 41 rfl) rfl (hr_iconst (v := 4) (hs_tb tb_X3_become 42 rfl) rfl (hr_copy (hs_tb tb_X3_become 43 rfl) ml_X3_55 w_nat w_st_copy w_in_sys ax_13 ax_40 (by decide) (by decide) (Nat.le_of_ble_eq_true rfl) (Nat.le_of_ble_eq_true rfl) (hr_nms (fun σ11 eσ11 => have h12 := h10 σ11 eσ11; (hr_aload_n (hs_tb tb_X3_become 44 rfl) 0 rfl (hr_aload_n (hs_tb tb_X3_become 45 rfl) 1 rfl (hr_getI (hs_tb tb_X3_become 46 rfl) fl_X3_46 fx_8_6 (hr_put (hs_tb tb_X3_become 47 rfl) fl_X3_46 fx_35_6 fw_3_6 (hr_nms (fun σ13 eσ13 => have h14 := h12 σ13 eσ13; (hr_aload_n (hs_tb tb_X3_become 48 rfl) 1 rfl (hr_getR (hs_tb tb_X3_become 49 rfl) fl_X3_27 fx_8_7 (hr_iconst (v := 0) (hs_tb tb_X3_become 50 rfl) rfl (hr_aload_n (hs_tb tb_X3_become 51 rfl) 0 rfl (hr_getR (hs_tb tb_X3_become 52 rfl) fl_X3_27 fx_35_7 (hr_iconst (v := 0) (hs_tb tb_X3_become 53 rfl) rfl (hr_iconst (v := 3) (hs_tb tb_X3_become 54 rfl) rfl (hr_copy (hs_tb tb_X3_become 55 rfl) ml_X3_55 w_nat w_st_copy w_in_sys ax_14 ax_41 (by decide) (by decide) (Nat.le_of_ble_eq_true rfl) (Nat.le_of_ble_eq_true rfl) (hr_nms (fun σ15 eσ15 => have h16 := h14 σ15 eσ15; (hr_aload_n (hs_tb tb_X3_become 56 rfl) 1 rfl (hr_getR (hs_tb tb_X3_become 57 rfl) fl_X3_30 fx_8_8 (hr_iconst (v := 0) (hs_tb tb_X3_become 58 rfl) rfl (hr_aload_n (hs_tb tb_X3_become 59 rfl) 0 rfl (hr_getR (hs_tb tb_X3_become 60 rfl) fl_X3_30 fx_35_8 (hr_iconst (v := 0) (hs_tb tb_X3_become 61 rfl) rfl (hr_iconst (v := 3) (hs_tb tb_X3_become 62 rfl) rfl (hr_copy (hs_tb tb_X3_become 63 rfl) ml_X3_55 w_nat w_st_copy w_in_sys ax_15 ax_42 (by decide) (by decide) (Nat.le_of_ble_eq_true rfl) (Nat.le_of_ble_eq_true rfl) (hr_nms (fun σ17 eσ17 => have h18 := h16 σ17 eσ17; (hr_aload_n (hs_tb tb_X3_become 64 rfl) 0 rfl (hr_aload_n (hs_tb tb_X3_become 65 rfl) 1 rfl (hr_getI (hs_tb tb_X3_become 66 rfl) fl_X3_49 fx_8_9 (hr_put (hs_tb tb_X3_become 67 rfl) fl_X3_49 fx_35_9 fw_3_9 (hr_nms (fun σ19 eσ19 => have h20 := h18 σ19 eσ19; (hr_aload_n (hs_tb tb_X3_become 68 rfl) 0 rfl (hr_aload_n (hs_tb tb_X3_become 69 rfl) 1 rfl (hr_getI (hs_tb tb_X3_become 70 rfl) fl_X3_52 fx_8_10 (hr_put (hs_tb tb_X3_become 71 rfl) fl_X3_52 fx_35_10 fw_3_10 (hr_nms (fun σ21 eσ21 => have h22 := h20 σ21 eσ21; (hr_aload_n (hs_tb tb_X3_become 72 rfl) 1 rfl (hr_getR (hs_tb tb_X3_become 73 rfl) fl_X3_33 fx_8_11 (hr_iconst (v := 0) (hs_tb tb_X3_become 74 rfl) rfl (hr_aload_n (hs_tb tb_X3_become 75 rfl) 0 rfl (hr_getR (hs_tb tb_X3_become 76 rfl) fl_X3_33 fx_35_11 (hr_iconst (v := 0) (hs_tb tb_X3_become 77 rfl) rfl (hr_bipush (v := 6) (hs_tb tb_X3_become 78 rfl) rfl (hr_copy (hs_tb tb_X3_become 79 rfl) ml_X3_55 w_nat w_st_copy w_in_sys ax_16 ax_43 (by decide) (by decide) (Nat.le_of_ble_eq_true rfl) (Nat.le_of_ble_eq_true rfl) (hr_nms (fun σ23 eσ23 => have h24 := h22 σ23 eσ23; (hr_aload_n (hs_tb tb_X3_become 80 rfl) 1 rfl (hr_getR (hs_tb tb_X3_become 81 rfl) fl_X3_36 fx_8_12 (hr_iconst (v := 0) (hs_tb tb_X3_become 82 rfl) rfl (hr_aload_n (hs_tb tb_X3_become 83 rfl) 0 rfl (hr_getR (hs_tb tb_X3_become 84 rfl) fl_X3_36 fx_35_12 (hr_iconst (v := 0) (hs_tb tb_X3_become 85 rfl) rfl (hr_bipush (v := 6) (hs_tb tb_X3_become 86 rfl) rfl (hr_copy (hs_tb tb_X3_become 87 rfl) ml_X3_55 w_nat w_st_copy w_in_sys ax_17 ax_44 (by decide) (by decide) (Nat.le_of_ble_eq_true rfl) (Nat.le_of_ble_eq_true rfl) (hr_nms (fun σ25 eσ25 => have h26 := h24 σ25 eσ25; (hr_aload_n (hs_tb tb_X3_become 88 rfl) 1 rfl (hr_getR (hs_tb tb_X3_become 89 rfl) fl_X3_39 fx_8_13 (hr_iconst (v := 0) (hs_tb tb_X3_become 90 rfl) rfl (hr_aload_n (hs_tb tb_X3_become 91 rfl) 0 rfl (hr_getR (hs_tb tb_X3_become 92 rfl) fl_X3_39 fx_35_13 (hr_iconst (v := 0) (hs_tb tb_X3_become 93 rfl) rfl (hr_bipush (v := 6) (hs_tb tb_X3_become 94 rfl) rfl (hr_copy (hs_tb tb_X3_become 95 rfl) ml_X3_55 w_nat w_st_copy w_in_sys ax_18 ax_45 (by decide) (by decide) (Nat.le_of_ble_eq_true rfl) (Nat.le_of_ble_eq_true rfl) (hr_nms (fun σ27 eσ27 => have h28 := h26 σ27 eσ27; (hr_vret (hs_tb tb_X3_become 96 rfl) rfl ⟨rfl, h28⟩))))))))))))))))))))))))))))))))))))))))))))))))))))))))))))))))))))))))))))))))))))))))))))))))))))))))))))))))))))))))))))))
set_option maxHeartbeats 4000000 in
set_option maxRecDepth 100000 in
theorem vc_X3_become_46_8  {σ : hs_St} {K : hs_St → Prop} (h : ∀ σ1 : hs_St, σ1 = hs_w σ 46 0 (σ.1 8 0) → (∀ σ3 : hs_St, σ3 = hs_ua σ1 47 (va_cpy (σ1.1 9) (σ1.1 47) 0 0 4) → (∀ σ5 : hs_St, σ5 = hs_ua σ3 48 (va_cpy (σ3.1 10) (σ3.1 48) 0 0 4) → (∀ σ7 : hs_St, σ7 = hs_ua σ5 49 (va_cpy (σ5.1 11) (σ5.1 49) 0 0 4) → (∀ σ9 : hs_St, σ9 = hs_ua σ7 50 (va_cpy (σ7.1 12) (σ7.1 50) 0 0 4) → (∀ σ11 : hs_St, σ11 = hs_ua σ9 51 (va_cpy (σ9.1 13) (σ9.1 51) 0 0 4) → (∀ σ13 : hs_St, σ13 = hs_w σ11 46 6 (σ11.1 8 6) → (∀ σ15 : hs_St, σ15 = hs_ua σ13 52 (va_cpy (σ13.1 14) (σ13.1 52) 0 0 3) → (∀ σ17 : hs_St, σ17 = hs_ua σ15 53 (va_cpy (σ15.1 15) (σ15.1 53) 0 0 3) → (∀ σ19 : hs_St, σ19 = hs_w σ17 46 9 (σ17.1 8 9) → (∀ σ21 : hs_St, σ21 = hs_w σ19 46 10 (σ19.1 8 10) → (∀ σ23 : hs_St, σ23 = hs_ua σ21 54 (va_cpy (σ21.1 16) (σ21.1 54) 0 0 6) → (∀ σ25 : hs_St, σ25 = hs_ua σ23 55 (va_cpy (σ23.1 17) (σ23.1 55) 0 0 6) → (∀ σ27 : hs_St, σ27 = hs_ua σ25 56 (va_cpy (σ25.1 18) (σ25.1 56) 0 0 6) → (K σ27))))))))))))))) : OkV m_X3_become [.ref 46, .ref 8] σ K := hs_ok_of rfl (Nat.le_of_ble_eq_true rfl) (show hs_Rn m_X3_become 0 [(0, .ref 46), (1, .ref 8)] [] σ _ from (hr_aload_n (hs_tb tb_X3_become 0 rfl) 0 rfl (hr_aload_n (hs_tb tb_X3_become 1 rfl) 1 rfl (hr_getI (hs_tb tb_X3_become 2 rfl) fl_X3_42 fx_8_0 (hr_put (hs_tb tb_X3_become 3 rfl) fl_X3_42 fx_46_0 fw_3_0 (hr_nms (fun σ1 eσ1 => have h2 := h σ1 eσ1; (hr_aload_n (hs_tb tb_X3_become 4 rfl) 1 rfl (hr_getR (hs_tb tb_X3_become 5 rfl) fl_X3_9 fx_8_1 (hr_iconst (v := 0) (hs_tb tb_X3_become 6 rfl) rfl (hr_aload_n (hs_tb tb_X3_become 7 rfl) 0 rfl (hr_getR (hs_tb tb_X3_become 8 rfl) fl_X3_9 fx_46_1 (hr_iconst (v := 0) (hs_tb tb_X3_become 9 rfl) rfl (hr_iconst (v := 4) (hs_tb tb_X3_become 10 rfl) rfl (hr_copy (hs_tb tb_X3_become 11 rfl) ml_X3_55 w_nat w_st_copy w_in_sys ax_9 ax_47 (by decide) (by decide) (Nat.le_of_ble_eq_true rfl) (Nat.le_of_ble_eq_true rfl) (hr_nms (fun σ3 eσ3 => have h4 := h2 σ3 eσ3; (hr_aload_n (hs_tb tb_X3_become 12 rfl) 1 rfl (hr_getR (hs_tb tb_X3_become 13 rfl) fl_X3_15 fx_8_2 (hr_iconst (v := 0) (hs_tb tb_X3_become 14 rfl) rfl (hr_aload_n (hs_tb tb_X3_become 15 rfl) 0 rfl (hr_getR (hs_tb tb_X3_become 16 rfl) fl_X3_15 fx_46_2 (hr_iconst (v := 0) (hs_tb tb_X3_become 17 rfl) rfl (hr_iconst (v := 4) (hs_tb tb_X3_become 18 rfl) rfl (hr_copy (hs_tb tb_X3_become 19 rfl) ml_X3_55 w_nat w_st_copy w_in_sys ax_10 ax_48 (by decide) (by decide) (Nat.le_of_ble_eq_true rfl) (Nat.le_of_ble_eq_true rfl) (hr_nms (fun σ5 eσ5 => have h6 := h4 σ5 eσ5; (hr_aload_n (hs_tb tb_X3_become 20 rfl) 1 rfl (hr_getR (hs_tb tb_X3_become 21 rfl) fl_X3_18 fx_8_3 (hr_iconst (v := 0) (hs_tb tb_X3_become 22 rfl) rfl (hr_aload_n (hs_tb tb_X3_become 23 rfl) 0 rfl (hr_getR (hs_tb tb_X3_become 24 rfl) fl_X3_18 fx_46_3 (hr_iconst (v := 0) (hs_tb tb_X3_become 25 rfl) rfl (hr_iconst (v := 4) (hs_tb tb_X3_become 26 rfl) rfl (hr_copy (hs_tb tb_X3_become 27 rfl) ml_X3_55 w_nat w_st_copy w_in_sys ax_11 ax_49 (by decide) (by decide) (Nat.le_of_ble_eq_true rfl) (Nat.le_of_ble_eq_true rfl) (hr_nms (fun σ7 eσ7 => have h8 := h6 σ7 eσ7; (hr_aload_n (hs_tb tb_X3_become 28 rfl) 1 rfl (hr_getR (hs_tb tb_X3_become 29 rfl) fl_X3_21 fx_8_4 (hr_iconst (v := 0) (hs_tb tb_X3_become 30 rfl) rfl (hr_aload_n (hs_tb tb_X3_become 31 rfl) 0 rfl (hr_getR (hs_tb tb_X3_become 32 rfl) fl_X3_21 fx_46_4 (hr_iconst (v := 0) (hs_tb tb_X3_become 33 rfl) rfl (hr_iconst (v := 4) (hs_tb tb_X3_become 34 rfl) rfl (hr_copy (hs_tb tb_X3_become 35 rfl) ml_X3_55 w_nat w_st_copy w_in_sys ax_12 ax_50 (by decide) (by decide) (Nat.le_of_ble_eq_true rfl) (Nat.le_of_ble_eq_true rfl) (hr_nms (fun σ9 eσ9 => have h10 := h8 σ9 eσ9; (hr_aload_n (hs_tb tb_X3_become 36 rfl) 1 rfl (hr_getR (hs_tb tb_X3_become 37 rfl) fl_X3_24 fx_8_5 (hr_iconst (v := 0) (hs_tb tb_X3_become 38 rfl) rfl (hr_aload_n (hs_tb tb_X3_become 39 rfl) 0 rfl (hr_getR (hs_tb tb_X3_become 40 rfl) fl_X3_24 fx_46_5 (hr_iconst (v := 0) (hs_tb tb_X3_become 41 rfl) rfl (hr_iconst (v := 4) (hs_tb tb_X3_become 42 rfl) rfl (hr_copy (hs_tb tb_X3_become 43 rfl) ml_X3_55 w_nat w_st_copy w_in_sys ax_13 ax_51 (by decide) (by decide) (Nat.le_of_ble_eq_true rfl) (Nat.le_of_ble_eq_true rfl) (hr_nms (fun σ11 eσ11 => have h12 := h10 σ11 eσ11; (hr_aload_n (hs_tb tb_X3_become 44 rfl) 0 rfl (hr_aload_n (hs_tb tb_X3_become 45 rfl) 1 rfl (hr_getI (hs_tb tb_X3_become 46 rfl) fl_X3_46 fx_8_6 (hr_put (hs_tb tb_X3_become 47 rfl) fl_X3_46 fx_46_6 fw_3_6 (hr_nms (fun σ13 eσ13 => have h14 := h12 σ13 eσ13; (hr_aload_n (hs_tb tb_X3_become 48 rfl) 1 rfl (hr_getR (hs_tb tb_X3_become 49 rfl) fl_X3_27 fx_8_7 (hr_iconst (v := 0) (hs_tb tb_X3_become 50 rfl) rfl (hr_aload_n (hs_tb tb_X3_become 51 rfl) 0 rfl (hr_getR (hs_tb tb_X3_become 52 rfl) fl_X3_27 fx_46_7 (hr_iconst (v := 0) (hs_tb tb_X3_become 53 rfl) rfl (hr_iconst (v := 3) (hs_tb tb_X3_become 54 rfl) rfl (hr_copy (hs_tb tb_X3_become 55 rfl) ml_X3_55 w_nat w_st_copy w_in_sys ax_14 ax_52 (by decide) (by decide) (Nat.le_of_ble_eq_true rfl) (Nat.le_of_ble_eq_true rfl) (hr_nms (fun σ15 eσ15 => have h16 := h14 σ15 eσ15; (hr_aload_n (hs_tb tb_X3_become 56 rfl) 1 rfl (hr_getR (hs_tb tb_X3_become 57 rfl) fl_X3_30 fx_8_8 (hr_iconst (v := 0) (hs_tb tb_X3_become 58 rfl) rfl (hr_aload_n (hs_tb tb_X3_become 59 rfl) 0 rfl (hr_getR (hs_tb tb_X3_become 60 rfl) fl_X3_30 fx_46_8 (hr_iconst (v := 0) (hs_tb tb_X3_become 61 rfl) rfl (hr_iconst (v := 3) (hs_tb tb_X3_become 62 rfl) rfl (hr_copy (hs_tb tb_X3_become 63 rfl) ml_X3_55 w_nat w_st_copy w_in_sys ax_15 ax_53 (by decide) (by decide) (Nat.le_of_ble_eq_true rfl) (Nat.le_of_ble_eq_true rfl) (hr_nms (fun σ17 eσ17 => have h18 := h16 σ17 eσ17; (hr_aload_n (hs_tb tb_X3_become 64 rfl) 0 rfl (hr_aload_n (hs_tb tb_X3_become 65 rfl) 1 rfl (hr_getI (hs_tb tb_X3_become 66 rfl) fl_X3_49 fx_8_9 (hr_put (hs_tb tb_X3_become 67 rfl) fl_X3_49 fx_46_9 fw_3_9 (hr_nms (fun σ19 eσ19 => have h20 := h18 σ19 eσ19; (hr_aload_n (hs_tb tb_X3_become 68 rfl) 0 rfl (hr_aload_n (hs_tb tb_X3_become 69 rfl) 1 rfl (hr_getI (hs_tb tb_X3_become 70 rfl) fl_X3_52 fx_8_10 (hr_put (hs_tb tb_X3_become 71 rfl) fl_X3_52 fx_46_10 fw_3_10 (hr_nms (fun σ21 eσ21 => have h22 := h20 σ21 eσ21; (hr_aload_n (hs_tb tb_X3_become 72 rfl) 1 rfl (hr_getR (hs_tb tb_X3_become 73 rfl) fl_X3_33 fx_8_11 (hr_iconst (v := 0) (hs_tb tb_X3_become 74 rfl) rfl (hr_aload_n (hs_tb tb_X3_become 75 rfl) 0 rfl (hr_getR (hs_tb tb_X3_become 76 rfl) fl_X3_33 fx_46_11 (hr_iconst (v := 0) (hs_tb tb_X3_become 77 rfl) rfl (hr_bipush (v := 6) (hs_tb tb_X3_become 78 rfl) rfl (hr_copy (hs_tb tb_X3_become 79 rfl) ml_X3_55 w_nat w_st_copy w_in_sys ax_16 ax_54 (by decide) (by decide) (Nat.le_of_ble_eq_true rfl) (Nat.le_of_ble_eq_true rfl) (hr_nms (fun σ23 eσ23 => have h24 := h22 σ23 eσ23; (hr_aload_n (hs_tb tb_X3_become 80 rfl) 1 rfl (hr_getR (hs_tb tb_X3_become 81 rfl) fl_X3_36 fx_8_12 (hr_iconst (v := 0) (hs_tb tb_X3_become 82 rfl) rfl (hr_aload_n (hs_tb tb_X3_become 83 rfl) 0 rfl (hr_getR (hs_tb tb_X3_become 84 rfl) fl_X3_36 fx_46_12 (hr_iconst (v := 0) (hs_tb tb_X3_become 85 rfl) rfl (hr_bipush (v := 6) (hs_tb tb_X3_become 86 rfl) rfl (hr_copy (hs_tb tb_X3_become 87 rfl) ml_X3_55 w_nat w_st_copy w_in_sys ax_17 ax_55 (by decide) (by decide) (Nat.le_of_ble_eq_true rfl) (Nat.le_of_ble_eq_true rfl) (hr_nms (fun σ25 eσ25 => have h26 := h24 σ25 eσ25; (hr_aload_n (hs_tb tb_X3_become 88 rfl) 1 rfl (hr_getR (hs_tb tb_X3_become 89 rfl) fl_X3_39 fx_8_13 (hr_iconst (v := 0) (hs_tb tb_X3_become 90 rfl) rfl (hr_aload_n (hs_tb tb_X3_become 91 rfl) 0 rfl (hr_getR (hs_tb tb_X3_become 92 rfl) fl_X3_39 fx_46_13 (hr_iconst (v := 0) (hs_tb tb_X3_become 93 rfl) rfl (hr_bipush (v := 6) (hs_tb tb_X3_become 94 rfl) rfl (hr_copy (hs_tb tb_X3_become 95 rfl) ml_X3_55 w_nat w_st_copy w_in_sys ax_18 ax_56 (by decide) (by decide) (Nat.le_of_ble_eq_true rfl) (Nat.le_of_ble_eq_true rfl) (hr_nms (fun σ27 eσ27 => have h28 := h26 σ27 eσ27; (hr_vret (hs_tb tb_X3_become 96 rfl) rfl ⟨rfl, h28⟩))))))))))))))))))))))))))))))))))))))))))))))))))))))))))))))))))))))))))))))))))))))))))))))))))))))))))))))))))))))))))))))
set_option maxHeartbeats 4000000 in
set_option maxRecDepth 100000 in
theorem vc_X3_become_8_35  {σ : hs_St} {K : hs_St → Prop} (h : ∀ σ1 : hs_St, σ1 = hs_w σ 8 0 (σ.1 35 0) → (∀ σ3 : hs_St, σ3 = hs_ua σ1 9 (va_cpy (σ1.1 36) (σ1.1 9) 0 0 4) → (∀ σ5 : hs_St, σ5 = hs_ua σ3 10 (va_cpy (σ3.1 37) (σ3.1 10) 0 0 4) → (∀ σ7 : hs_St, σ7 = hs_ua σ5 11 (va_cpy (σ5.1 38) (σ5.1 11) 0 0 4) → (∀ σ9 : hs_St, σ9 = hs_ua σ7 12 (va_cpy (σ7.1 39) (σ7.1 12) 0 0 4) → (∀ σ11 : hs_St, σ11 = hs_ua σ9 13 (va_cpy (σ9.1 40) (σ9.1 13) 0 0 4) → (∀ σ13 : hs_St, σ13 = hs_w σ11 8 6 (σ11.1 35 6) → (∀ σ15 : hs_St, σ15 = hs_ua σ13 14 (va_cpy (σ13.1 41) (σ13.1 14) 0 0 3) → (∀ σ17 : hs_St, σ17 = hs_ua σ15 15 (va_cpy (σ15.1 42) (σ15.1 15) 0 0 3) → (∀ σ19 : hs_St, σ19 = hs_w σ17 8 9 (σ17.1 35 9) → (∀ σ21 : hs_St, σ21 = hs_w σ19 8 10 (σ19.1 35 10) → (∀ σ23 : hs_St, σ23 = hs_ua σ21 16 (va_cpy (σ21.1 43) (σ21.1 16) 0 0 6) → (∀ σ25 : hs_St, σ25 = hs_ua σ23 17 (va_cpy (σ23.1 44) (σ23.1 17) 0 0 6) → (∀ σ27 : hs_St, σ27 = hs_ua σ25 18 (va_cpy (σ25.1 45) (σ25.1 18) 0 0 6) → (K σ27))))))))))))))) : OkV m_X3_become [.ref 8, .ref 35] σ K := hs_ok_of rfl (Nat.le_of_ble_eq_true rfl) (show hs_Rn m_X3_become 0 [(0, .ref 8), (1, .ref 35)] [] σ _ from (hr_aload_n (hs_tb tb_X3_become 0 rfl) 0 rfl (hr_aload_n (hs_tb tb_X3_become 1 rfl) 1 rfl (hr_getI (hs_tb tb_X3_become 2 rfl) fl_X3_42 fx_35_0 (hr_put (hs_tb tb_X3_become 3 rfl) fl_X3_42 fx_8_0 fw_3_0 (hr_nms (fun σ1 eσ1 => have h2 := h σ1 eσ1; (hr_aload_n (hs_tb tb_X3_become 4 rfl) 1 rfl (hr_getR (hs_tb tb_X3_become 5 rfl) fl_X3_9 fx_35_1 (hr_iconst (v := 0) (hs_tb tb_X3_become 6 rfl) rfl (hr_aload_n (hs_tb tb_X3_become 7 rfl) 0 rfl (hr_getR (hs_tb tb_X3_become 8 rfl) fl_X3_9 fx_8_1 (hr_iconst (v := 0) (hs_tb tb_X3_become 9 rfl) rfl (hr_iconst (v := 4) (hs_tb tb_X3_become 10 rfl) rfl (hr_copy (hs_tb tb_X3_become 11 rfl) ml_X3_55 w_nat w_st_copy w_in_sys ax_36 ax_9 (by decide) (by decide) (Nat.le_of_ble_eq_true rfl) (Nat.le_of_ble_eq_true rfl) (hr_nms (fun σ3 eσ3 => have h4 := h2 σ3 eσ3; (hr_aload_n (hs_tb tb_X3_become 12 rfl) 1 rfl (hr_getR (hs_tb tb_X3_become 13 rfl) fl_X3_15 fx_35_2 (hr_iconst (v := 0) (hs_tb tb_X3_become 14 rfl) rfl (hr_aload_n (hs_tb tb_X3_become 15 rfl) 0 rfl (hr_getR (hs_tb tb_X3_become 16 rfl) fl_X3_15 fx_8_2 (hr_iconst (v := 0) (hs_tb tb_X3_become 17 rfl) rfl (hr_iconst (v := 4) (hs_tb tb_X3_become 18 rfl) rfl (hr_copy (hs_tb tb_X3_become 19 rfl) ml_X3_55 w_nat w_st_copy w_in_sys ax_37 ax_10 (by decide) (by decide) (Nat.le_of_ble_eq_true rfl) (Nat.le_of_ble_eq_true rfl) (hr_nms (fun σ5 eσ5 => have h6 := h4 σ5 eσ5; (hr_aload_n (hs_tb tb_X3_become 20 rfl) 1 rfl (hr_getR (hs_tb tb_X3_become 21 rfl) fl_X3_18 fx_35_3 (hr_iconst (v := 0) (hs_tb tb_X3_become 22 rfl) rfl (hr_aload_n (hs_tb tb_X3_become 23 rfl) 0 rfl (hr_getR (hs_tb tb_X3_become 24 rfl) fl_X3_18 fx_8_3 (hr_iconst (v := 0) (hs_tb tb_X3_become 25 rfl) rfl (hr_iconst (v := 4) (hs_tb tb_X3_become 26 rfl) rfl (hr_copy (hs_tb tb_X3_become 27 rfl) ml_X3_55 w_nat w_st_copy w_in_sys ax_38 ax_11 (by decide) (by decide) (Nat.le_of_ble_eq_true rfl) (Nat.le_of_ble_eq_true rfl) (hr_nms (fun σ7 eσ7 => have h8 := h6 σ7 eσ7; (hr_aload_n (hs_tb tb_X3_become 28 rfl) 1 rfl (hr_getR (hs_tb tb_X3_become 29 rfl) fl_X3_21 fx_35_4 (hr_iconst (v := 0) (hs_tb tb_X3_become 30 rfl) rfl (hr_aload_n (hs_tb tb_X3_become 31 rfl) 0 rfl (hr_getR (hs_tb tb_X3_become 32 rfl) fl_X3_21 fx_8_4 (hr_iconst (v := 0) (hs_tb tb_X3_become 33 rfl) rfl (hr_iconst (v := 4) (hs_tb tb_X3_become 34 rfl) rfl (hr_copy (hs_tb tb_X3_become 35 rfl) ml_X3_55 w_nat w_st_copy w_in_sys ax_39 ax_12 (by decide) (by decide) (Nat.le_of_ble_eq_true rfl) (Nat.le_of_ble_eq_true rfl) (hr_nms (fun σ9 eσ9 => have h10 := h8 σ9 eσ9; (hr_aload_n (hs_tb tb_X3_become 36 rfl) 1 rfl (hr_getR (hs_tb tb_X3_become 37 rfl) fl_X3_24 fx_35_5 (hr_iconst (v := 0) (hs_tb tb_X3_become 38 rfl) rfl (hr_aload_n (hs_tb tb_X3_become 39 rfl) 0 rfl (hr_getR (hs_tb tb_X3_become 40 rfl) fl_X3_24 fx_8_5 (hr_iconst (v := 0) (hs_tb tb_X3_become 41 rfl) rfl (hr_iconst (v := 4) (hs_tb tb_X3_become 42 rfl) rfl (hr_copy (hs_tb tb_X3_become 43 rfl) ml_X3_55 w_nat w_st_copy w_in_sys ax_40 ax_13 (by decide) (by decide) (Nat.le_of_ble_eq_true rfl) (Nat.le_of_ble_eq_true rfl) (hr_nms (fun σ11 eσ11 => have h12 := h10 σ11 eσ11; (hr_aload_n (hs_tb tb_X3_become 44 rfl) 0 rfl (hr_aload_n (hs_tb tb_X3_become 45 rfl) 1 rfl (hr_getI (hs_tb tb_X3_become 46 rfl) fl_X3_46 fx_35_6 (hr_put (hs_tb tb_X3_become 47 rfl) fl_X3_46 fx_8_6 fw_3_6 (hr_nms (fun σ13 eσ13 => have h14 := h12 σ13 eσ13; (hr_aload_n (hs_tb tb_X3_become 48 rfl) 1 rfl (hr_getR (hs_tb tb_X3_become 49 rfl) fl_X3_27 fx_35_7 (hr_iconst (v := 0) (hs_tb tb_X3_become 50 rfl) rfl (hr_aload_n (hs_tb tb_X3_become 51 rfl) 0 rfl (hr_getR (hs_tb tb_X3_become 52 rfl) fl_X3_27 fx_8_7 (hr_iconst (v := 0) (hs_tb tb_X3_become 53 rfl) rfl (hr_iconst (v := 3) (hs_tb tb_X3_become 54 rfl) rfl (hr_copy (hs_tb tb_X3_become 55 rfl) ml_X3_55 w_nat w_st_copy w_in_sys ax_41 ax_14 (by decide) (by decide) (Nat.le_of_ble_eq_true rfl) (Nat.le_of_ble_eq_true rfl) (hr_nms (fun σ15 eσ15 => have h16 := h14 σ15 eσ15; (hr_aload_n (hs_tb tb_X3_become 56 rfl) 1 rfl (hr_getR (hs_tb tb_X3_become 57 rfl) fl_X3_30 fx_35_8 (hr_iconst (v := 0) (hs_tb tb_X3_become 58 rfl) rfl (hr_aload_n (hs_tb tb_X3_become 59 rfl) 0 rfl (hr_getR (hs_tb tb_X3_become 60 rfl) fl_X3_30 fx_8_8 (hr_iconst (v := 0) (hs_tb tb_X3_become 61 rfl) rfl (hr_iconst (v := 3) (hs_tb tb_X3_become 62 rfl) rfl (hr_copy (hs_tb tb_X3_become 63 rfl) ml_X3_55 w_nat w_st_copy w_in_sys ax_42 ax_15 (by decide) (by decide) (Nat.le_of_ble_eq_true rfl) (Nat.le_of_ble_eq_true rfl) (hr_nms (fun σ17 eσ17 => have h18 := h16 σ17 eσ17; (hr_aload_n (hs_tb tb_X3_become 64 rfl) 0 rfl (hr_aload_n (hs_tb tb_X3_become 65 rfl) 1 rfl (hr_getI (hs_tb tb_X3_become 66 rfl) fl_X3_49 fx_35_9 (hr_put (hs_tb tb_X3_become 67 rfl) fl_X3_49 fx_8_9 fw_3_9 (hr_nms (fun σ19 eσ19 => have h20 := h18 σ19 eσ19; (hr_aload_n (hs_tb tb_X3_become 68 rfl) 0 rfl (hr_aload_n (hs_tb tb_X3_become 69 rfl) 1 rfl (hr_getI (hs_tb tb_X3_become 70 rfl) fl_X3_52 fx_35_10 (hr_put (hs_tb tb_X3_become 71 rfl) fl_X3_52 fx_8_10 fw_3_10 (hr_nms (fun σ21 eσ21 => have h22 := h20 σ21 eσ21; (hr_aload_n (hs_tb tb_X3_become 72 rfl) 1 rfl (hr_getR (hs_tb tb_X3_become 73 rfl) fl_X3_33 fx_35_11 (hr_iconst (v := 0) (hs_tb tb_X3_become 74 rfl) rfl (hr_aload_n (hs_tb tb_X3_become 75 rfl) 0 rfl (hr_getR (hs_tb tb_X3_become 76 rfl) fl_X3_33 fx_8_11 (hr_iconst (v := 0) (hs_tb tb_X3_become 77 rfl) rfl (hr_bipush (v := 6) (hs_tb tb_X3_become 78 rfl) rfl (hr_copy (hs_tb tb_X3_become 79 rfl) ml_X3_55 w_nat w_st_copy w_in_sys ax_43 ax_16 (by decide) (by decide) (Nat.le_of_ble_eq_true rfl) (Nat.le_of_ble_eq_true rfl) (hr_nms (fun σ23 eσ23 => have h24 := h22 σ23 eσ23; (hr_aload_n (hs_tb tb_X3_become 80 rfl) 1 rfl (hr_getR (hs_tb tb_X3_become 81 rfl) fl_X3_36 fx_35_12 (hr_iconst (v := 0) (hs_tb tb_X3_become 82 rfl) rfl (hr_aload_n (hs_tb tb_X3_become 83 rfl) 0 rfl (hr_getR (hs_tb tb_X3_become 84 rfl) fl_X3_36 fx_8_12 (hr_iconst (v := 0) (hs_tb tb_X3_become 85 rfl) rfl (hr_bipush (v := 6) (hs_tb tb_X3_become 86 rfl) rfl (hr_copy (hs_tb tb_X3_become 87 rfl) ml_X3_55 w_nat w_st_copy w_in_sys ax_44 ax_17 (by decide) (by decide) (Nat.le_of_ble_eq_true rfl) (Nat.le_of_ble_eq_true rfl) (hr_nms (fun σ25 eσ25 => have h26 := h24 σ25 eσ25; (hr_aload_n (hs_tb tb_X3_become 88 rfl) 1 rfl (hr_getR (hs_tb tb_X3_become 89 rfl) fl_X3_39 fx_35_13 (hr_iconst (v := 0) (hs_tb tb_X3_become 90 rfl) rfl (hr_aload_n (hs_tb tb_X3_become 91 rfl) 0 rfl (hr_getR (hs_tb tb_X3_become 92 rfl) fl_X3_39 fx_8_13 (hr_iconst (v := 0) (hs_tb tb_X3_become 93 rfl) rfl (hr_bipush (v := 6) (hs_tb tb_X3_become 94 rfl) rfl (hr_copy (hs_tb tb_X3_become 95 rfl) ml_X3_55 w_nat w_st_copy w_in_sys ax_45 ax_18 (by decide) (by decide) (Nat.le_of_ble_eq_true rfl) (Nat.le_of_ble_eq_true rfl) (hr_nms (fun σ27 eσ27 => have h28 := h26 σ27 eσ27; (hr_vret (hs_tb tb_X3_become 96 rfl) rfl ⟨rfl, h28⟩))))))))))))))))))))))))))))))))))))))))))))))))))))))))))))))))))))))))))))))))))))))))))))))))))))))))))))))))))))))))))))))
set_option maxHeartbeats 4000000 in
set_option maxRecDepth 100000 in
theorem vc_X3_become_8_46  {σ : hs_St} {K : hs_St → Prop} (h : ∀ σ1 : hs_St, σ1 = hs_w σ 8 0 (σ.1 46 0) → (∀ σ3 : hs_St, σ3 = hs_ua σ1 9 (va_cpy (σ1.1 47) (σ1.1 9) 0 0 4) → (∀ σ5 : hs_St, σ5 = hs_ua σ3 10 (va_cpy (σ3.1 48) (σ3.1 10) 0 0 4) → (∀ σ7 : hs_St, σ7 = hs_ua σ5 11 (va_cpy (σ5.1 49) (σ5.1 11) 0 0 4) → (∀ σ9 : hs_St, σ9 = hs_ua σ7 12 (va_cpy (σ7.1 50) (σ7.1 12) 0 0 4) → (∀ σ11 : hs_St, σ11 = hs_ua σ9 13 (va_cpy (σ9.1 51) (σ9.1 13) 0 0 4) → (∀ σ13 : hs_St, σ13 = hs_w σ11 8 6 (σ11.1 46 6) → (∀ σ15 : hs_St, σ15 = hs_ua σ13 14 (va_cpy (σ13.1 52) (σ13.1 14) 0 0 3) → (∀ σ17 : hs_St, σ17 = hs_ua σ15 15 (va_cpy (σ15.1 53) (σ15.1 15) 0 0 3) → (∀ σ19 : hs_St, σ19 = hs_w σ17 8 9 (σ17.1 46 9) → (∀ σ21 : hs_St, σ21 = hs_w σ19 8 10 (σ19.1 46 10) → (∀ σ23 : hs_St, σ23 = hs_ua σ21 16 (va_cpy (σ21.1 54) (σ21.1 16) 0 0 6) → (∀ σ25 : hs_St, σ25 = hs_ua σ23 17 (va_cpy (σ23.1 55) (σ23.1 17) 0 0 6) → (∀ σ27 : hs_St, σ27 = hs_ua σ25 18 (va_cpy (σ25.1 56) (σ25.1 18) 0 0 6) → (K σ27))))))))))))))) : OkV m_X3_become [.ref 8, .ref 46] σ K := hs_ok_of rfl (Nat.le_of_ble_eq_true rfl) (show hs_Rn m_X3_become 0 [(0, .ref 8), (1, .ref 46)] [] σ _ from (hr_aload_n (hs_tb tb_X3_become 0 rfl) 0 rfl (hr_aload_n (hs_tb tb_X3_become 1 rfl) 1 rfl (hr_getI (hs_tb tb_X3_become 2 rfl) fl_X3_42 fx_46_0 (hr_put (hs_tb tb_X3_become 3 rfl) fl_X3_42 fx_8_0 fw_3_0 (hr_nms (fun σ1 eσ1 => have h2 := h σ1 eσ1; (hr_aload_n (hs_tb tb_X3_become 4 rfl) 1 rfl (hr_getR (hs_tb tb_X3_become 5 rfl) fl_X3_9 fx_46_1 (hr_iconst (v := 0) (hs_tb tb_X3_become 6 rfl) rfl (hr_aload_n (hs_tb tb_X3_become 7 rfl) 0 rfl (hr_getR (hs_tb tb_X3_become 8 rfl) fl_X3_9 fx_8_1 (hr_iconst (v := 0) (hs_tb tb_X3_become 9 rfl) rfl (hr_iconst (v := 4) (hs_tb tb_X3_become 10 rfl) rfl (hr_copy (hs_tb tb_X3_become 11 rfl) ml_X3_55 w_nat w_st_copy w_in_sys ax_47 ax_9 (by decide) (by decide) (Nat.le_of_ble_eq_true rfl) (Nat.le_of_ble_eq_true rfl) (hr_nms (fun σ3 eσ3 => have h4 := h2 σ3 eσ3; (hr_aload_n (hs_tb tb_X3_become 12 rfl) 1 rfl (hr_getR (hs_tb tb_X3_become 13 rfl) fl_X3_15 fx_46_2 (hr_iconst (v := 0) (hs_tb tb_X3_become 14 rfl) rfl (hr_aload_n (hs_tb tb_X3_become 15 rfl) 0 rfl (hr_getR (hs_tb tb_X3_become 16 rfl) fl_X3_15 fx_8_2 (hr_iconst (v := 0) (hs_tb tb_X3_become 17 rfl) rfl (hr_iconst (v := 4) (hs_tb tb_X3_become 18 rfl) rfl (hr_copy (hs_tb tb_X3_become 19 rfl) ml_X3_55 w_nat w_st_copy w_in_sys ax_48 ax_10 (by decide) (by decide) (Nat.le_of_ble_eq_true rfl) (Nat.le_of_ble_eq_true rfl) (hr_nms (fun σ5 eσ5 => have h6 := h4 σ5 eσ5; (hr_aload_n (hs_tb tb_X3_become 20 rfl) 1 rfl (hr_getR (hs_tb tb_X3_become 21 rfl) fl_X3_18 fx_46_3 (hr_iconst (v := 0) (hs_tb tb_X3_become 22 rfl) rfl (hr_aload_n (hs_tb tb_X3_become 23 rfl) 0 rfl (hr_getR (hs_tb tb_X3_become 24 rfl) fl_X3_18 fx_8_3 (hr_iconst (v := 0) (hs_tb tb_X3_become 25 rfl) rfl (hr_iconst (v := 4) (hs_tb tb_X3_become 26 rfl) rfl (hr_copy (hs_tb tb_X3_become 27 rfl) ml_X3_55 w_nat w_st_copy w_in_sys ax_49 ax_11 (by decide) (by decide) (Nat.le_of_ble_eq_true rfl) (Nat.le_of_ble_eq_true rfl) (hr_nms (fun σ7 eσ7 => have h8 := h6 σ7 eσ7; (hr_aload_n (hs_tb tb_X3_become 28 rfl) 1 rfl (hr_getR (hs_tb tb_X3_become 29 rfl) fl_X3_21 fx_46_4 (hr_iconst (v := 0) (hs_tb tb_X3_become 30 rfl) rfl (hr_aload_n (hs_tb tb_X3_become 31 rfl) 0 rfl (hr_getR (hs_tb tb_X3_become 32 rfl) fl_X3_21 fx_8_4 (hr_iconst (v := 0) (hs_tb tb_X3_become 33 rfl) rfl (hr_iconst (v := 4) (hs_tb tb_X3_become 34 rfl) rfl (hr_copy (hs_tb tb_X3_become 35 rfl) ml_X3_55 w_nat w_st_copy w_in_sys ax_50 ax_12 (by decide) (by decide) (Nat.le_of_ble_eq_true rfl) (Nat.le_of_ble_eq_true rfl) (hr_nms (fun σ9 eσ9 => have h10 := h8 σ9 eσ9; (hr_aload_n (hs_tb tb_X3_become 36 rfl) 1 rfl (hr_getR (hs_tb tb_X3_become 37 rfl) fl_X3_24 fx_46_5 (hr_iconst (v := 0) (hs_tb tb_X3_become 38 rfl) rfl (hr_aload_n (hs_tb tb_X3_become 39 rfl) 0 rfl (hr_getR (hs_tb tb_X3_become 40 rfl) fl_X3_24 fx_8_5 (hr_iconst (v := 0) (hs_tb tb_X3_become 41 rfl) rfl (hr_iconst (v := 4) (hs_tb tb_X3_become 42 rfl) rfl (hr_copy (hs_tb tb_X3_become 43 rfl) ml_X3_55 w_nat w_st_copy w_in_sys ax_51 ax_13 (by decide) (by decide) (Nat.le_of_ble_eq_true rfl) (Nat.le_of_ble_eq_true rfl) (hr_nms (fun σ11 eσ11 => have h12 := h10 σ11 eσ11; (hr_aload_n (hs_tb tb_X3_become 44 rfl) 0 rfl (hr_aload_n (hs_tb tb_X3_become 45 rfl) 1 rfl (hr_getI (hs_tb tb_X3_become 46 rfl) fl_X3_46 fx_46_6 (hr_put (hs_tb tb_X3_become 47 rfl) fl_X3_46 fx_8_6 fw_3_6 (hr_nms (fun σ13 eσ13 => have h14 := h12 σ13 eσ13; (hr_aload_n (hs_tb tb_X3_become 48 rfl) 1 rfl (hr_getR (hs_tb tb_X3_become 49 rfl) fl_X3_27 fx_46_7 (hr_iconst (v := 0) (hs_tb tb_X3_become 50 rfl) rfl (hr_aload_n (hs_tb tb_X3_become 51 rfl) 0 rfl (hr_getR (hs_tb tb_X3_become 52 rfl) fl_X3_27 fx_8_7 (hr_iconst (v := 0) (hs_tb tb_X3_become 53 rfl) rfl (hr_iconst (v := 3) (hs_tb tb_X3_become 54 rfl) rfl (hr_copy (hs_tb tb_X3_become 55 rfl) ml_X3_55 w_nat w_st_copy w_in_sys ax_52 ax_14 (by decide) (by decide) (Nat.le_of_ble_eq_true rfl) (Nat.le_of_ble_eq_true rfl) (hr_nms (fun σ15 eσ15 => have h16 := h14 σ15 eσ15; (hr_aload_n (hs_tb tb_X3_become 56 rfl) 1 rfl (hr_getR (hs_tb tb_X3_become 57 rfl) fl_X3_30 fx_46_8 (hr_iconst (v := 0) (hs_tb tb_X3_become 58 rfl) rfl (hr_aload_n (hs_tb tb_X3_become 59 rfl) 0 rfl (hr_getR (hs_tb tb_X3_become 60 rfl) fl_X3_30 fx_8_8 (hr_iconst (v := 0) (hs_tb tb_X3_become 61 rfl) rfl (hr_iconst (v := 3) (hs_tb tb_X3_become 62 rfl) rfl (hr_copy (hs_tb tb_X3_become 63 rfl) ml_X3_55 w_nat w_st_copy w_in_sys ax_53 ax_15 (by decide) (by decide) (Nat.le_of_ble_eq_true rfl) (Nat.le_of_ble_eq_true rfl) (hr_nms (fun σ17 eσ17 => have h18 := h16 σ17 eσ17; (hr_aload_n (hs_tb tb_X3_become 64 rfl) 0 rfl (hr_aload_n (hs_tb tb_X3_become 65 rfl) 1 rfl (hr_getI (hs_tb tb_X3_become 66 rfl) fl_X3_49 fx_46_9 (hr_put (hs_tb tb_X3_become 67 rfl) fl_X3_49 fx_8_9 fw_3_9 (hr_nms (fun σ19 eσ19 => have h20 := h18 σ19 eσ19; (hr_aload_n (hs_tb tb_X3_become 68 rfl) 0 rfl (hr_aload_n (hs_tb tb_X3_become 69 rfl) 1 rfl (hr_getI (hs_tb tb_X3_become 70 rfl) fl_X3_52 fx_46_10 (hr_put (hs_tb tb_X3_become 71 rfl) fl_X3_52 fx_8_10 fw_3_10 (hr_nms (fun σ21 eσ21 => have h22 := h20 σ21 eσ21; (hr_aload_n (hs_tb tb_X3_become 72 rfl) 1 rfl (hr_getR (hs_tb tb_X3_become 73 rfl) fl_X3_33 fx_46_11 (hr_iconst (v := 0) (hs_tb tb_X3_become 74 rfl) rfl (hr_aload_n (hs_tb tb_X3_become 75 rfl) 0 rfl (hr_getR (hs_tb tb_X3_become 76 rfl) fl_X3_33 fx_8_11 (hr_iconst (v := 0) (hs_tb tb_X3_become 77 rfl) rfl (hr_bipush (v := 6) (hs_tb tb_X3_become 78 rfl) rfl (hr_copy (hs_tb tb_X3_become 79 rfl) ml_X3_55 w_nat w_st_copy w_in_sys ax_54 ax_16 (by decide) (by decide) (Nat.le_of_ble_eq_true rfl) (Nat.le_of_ble_eq_true rfl) (hr_nms (fun σ23 eσ23 => have h24 := h22 σ23 eσ23; (hr_aload_n (hs_tb tb_X3_become 80 rfl) 1 rfl (hr_getR (hs_tb tb_X3_become 81 rfl) fl_X3_36 fx_46_12 (hr_iconst (v := 0) (hs_tb tb_X3_become 82 rfl) rfl (hr_aload_n (hs_tb tb_X3_become 83 rfl) 0 rfl (hr_getR (hs_tb tb_X3_become 84 rfl) fl_X3_36 fx_8_12 (hr_iconst (v := 0) (hs_tb tb_X3_become 85 rfl) rfl (hr_bipush (v := 6) (hs_tb tb_X3_become 86 rfl) rfl (hr_copy (hs_tb tb_X3_become 87 rfl) ml_X3_55 w_nat w_st_copy w_in_sys ax_55 ax_17 (by decide) (by decide) (Nat.le_of_ble_eq_true rfl) (Nat.le_of_ble_eq_true rfl) (hr_nms (fun σ25 eσ25 => have h26 := h24 σ25 eσ25; (hr_aload_n (hs_tb tb_X3_become 88 rfl) 1 rfl (hr_getR (hs_tb tb_X3_become 89 rfl) fl_X3_39 fx_46_13 (hr_iconst (v := 0) (hs_tb tb_X3_become 90 rfl) rfl (hr_aload_n (hs_tb tb_X3_become 91 rfl) 0 rfl (hr_getR (hs_tb tb_X3_become 92 rfl) fl_X3_39 fx_8_13 (hr_iconst (v := 0) (hs_tb tb_X3_become 93 rfl) rfl (hr_bipush (v := 6) (hs_tb tb_X3_become 94 rfl) rfl (hr_copy (hs_tb tb_X3_become 95 rfl) ml_X3_55 w_nat w_st_copy w_in_sys ax_56 ax_18 (by decide) (by decide) (Nat.le_of_ble_eq_true rfl) (Nat.le_of_ble_eq_true rfl) (hr_nms (fun σ27 eσ27 => have h28 := h26 σ27 eσ27; (hr_vret (hs_tb tb_X3_become 96 rfl) rfl ⟨rfl, h28⟩))))))))))))))))))))))))))))))))))))))))))))))))))))))))))))))))))))))))))))))))))))))))))))))))))))))))))))))))))))))))))))))
set_option maxHeartbeats 4000000 in
set_option maxRecDepth 100000 in
theorem vc_X3_hasGhost_8 {p0 : Int32} {σ : hs_St} {K : Bool → hs_St → Prop} (h : OkB m_X5_within [.int p0, .int 0, .int ((σ.1 8 0) - 1)] σ (fun r1 σ2 => K r1 σ2)) : OkB m_X3_hasGhost [.ref 8, .int p0] σ K := hs_ok_of rfl (Nat.le_of_ble_eq_true rfl) (show hs_Rn m_X3_hasGhost 0 [(0, .ref 8), (1, .int p0)] [] σ _ from (hr_iload_n (hs_tb tb_X3_hasGhost 0 rfl) 1 rfl (hr_iconst (v := 0) (hs_tb tb_X3_hasGhost 1 rfl) rfl (hr_aload_n (hs_tb tb_X3_hasGhost 2 rfl) 0 rfl (hr_getI (hs_tb tb_X3_hasGhost 3 rfl) fl_X3_42 fx_8_0 (hr_iconst (v := 1) (hs_tb tb_X3_hasGhost 4 rfl) rfl (hr_isub (hs_tb tb_X3_hasGhost 5 rfl) (hr_callN (y := m_X5_within) (As := [.int p0, .int 0, .int ((σ.1 8 0) - 1)]) (st := []) (hs_tb tb_X3_hasGhost 6 rfl) mn_X3_61 cm_X5_within wt_X5_within rfl ⟨Nat.le_of_ble_eq_true rfl, Nat.le_of_ble_eq_true rfl, Nat.le_of_ble_eq_true rfl⟩ (OkB.go h (fun r1 σ2 h3 => (show hs_Rn m_X3_hasGhost 11 [(0, .ref 8), (1, .int p0)] [.int (hs_b r1)] σ2 _ from (hr_zret (hs_tb tb_X3_hasGhost 7 rfl) rfl rfl ⟨_, rfl, h3⟩))))))))))))
set_option maxHeartbeats 4000000 in
set_option maxRecDepth 100000 in
theorem vc_X3_hasGhost_22 {p0 : Int32} {σ : hs_St} {K : Bool → hs_St → Prop} (h : OkB m_X5_within [.int p0, .int 0, .int ((σ.1 22 0) - 1)] σ (fun r1 σ2 => K r1 σ2)) : OkB m_X3_hasGhost [.ref 22, .int p0] σ K := hs_ok_of rfl (Nat.le_of_ble_eq_true rfl) (show hs_Rn m_X3_hasGhost 0 [(0, .ref 22), (1, .int p0)] [] σ _ from (hr_iload_n (hs_tb tb_X3_hasGhost 0 rfl) 1 rfl (hr_iconst (v := 0) (hs_tb tb_X3_hasGhost 1 rfl) rfl (hr_aload_n (hs_tb tb_X3_hasGhost 2 rfl) 0 rfl (hr_getI (hs_tb tb_X3_hasGhost 3 rfl) fl_X3_42 fx_22_0 (hr_iconst (v := 1) (hs_tb tb_X3_hasGhost 4 rfl) rfl (hr_isub (hs_tb tb_X3_hasGhost 5 rfl) (hr_callN (y := m_X5_within) (As := [.int p0, .int 0, .int ((σ.1 22 0) - 1)]) (st := []) (hs_tb tb_X3_hasGhost 6 rfl) mn_X3_61 cm_X5_within wt_X5_within rfl ⟨Nat.le_of_ble_eq_true rfl, Nat.le_of_ble_eq_true rfl, Nat.le_of_ble_eq_true rfl⟩ (OkB.go h (fun r1 σ2 h3 => (show hs_Rn m_X3_hasGhost 11 [(0, .ref 22), (1, .int p0)] [.int (hs_b r1)] σ2 _ from (hr_zret (hs_tb tb_X3_hasGhost 7 rfl) rfl rfl ⟨_, rfl, h3⟩))))))))))))
set_option maxHeartbeats 4000000 in
set_option maxRecDepth 100000 in
theorem vc_X3_hasClerk_8 {p0 : Int32} {σ : hs_St} {K : Bool → hs_St → Prop} (h : OkB m_X5_within [.int p0, .int 0, .int ((σ.1 8 6) - 1)] σ (fun r1 σ2 => K r1 σ2)) : OkB m_X3_hasClerk [.ref 8, .int p0] σ K := hs_ok_of rfl (Nat.le_of_ble_eq_true rfl) (show hs_Rn m_X3_hasClerk 0 [(0, .ref 8), (1, .int p0)] [] σ _ from (hr_iload_n (hs_tb tb_X3_hasClerk 0 rfl) 1 rfl (hr_iconst (v := 0) (hs_tb tb_X3_hasClerk 1 rfl) rfl (hr_aload_n (hs_tb tb_X3_hasClerk 2 rfl) 0 rfl (hr_getI (hs_tb tb_X3_hasClerk 3 rfl) fl_X3_46 fx_8_6 (hr_iconst (v := 1) (hs_tb tb_X3_hasClerk 4 rfl) rfl (hr_isub (hs_tb tb_X3_hasClerk 5 rfl) (hr_callN (y := m_X5_within) (As := [.int p0, .int 0, .int ((σ.1 8 6) - 1)]) (st := []) (hs_tb tb_X3_hasClerk 6 rfl) mn_X3_61 cm_X5_within wt_X5_within rfl ⟨Nat.le_of_ble_eq_true rfl, Nat.le_of_ble_eq_true rfl, Nat.le_of_ble_eq_true rfl⟩ (OkB.go h (fun r1 σ2 h3 => (show hs_Rn m_X3_hasClerk 11 [(0, .ref 8), (1, .int p0)] [.int (hs_b r1)] σ2 _ from (hr_zret (hs_tb tb_X3_hasClerk 7 rfl) rfl rfl ⟨_, rfl, h3⟩))))))))))))
set_option maxHeartbeats 4000000 in
set_option maxRecDepth 100000 in
theorem vc_X3_addGhost_8 {p0 : Int32} {p1 : Int32} {p2 : Int32} {p3 : Int32} {σ : hs_St} {K : hs_St → Prop} (h : (4 ≤ (σ.1 8 0) → (K σ)) ∧ (¬ 4 ≤ (σ.1 8 0) → (vp_in (σ.1 8 0) 4 ∧ (∀ σ4 : hs_St, σ4 = hs_w σ 9 ((σ.1 8 0).toNatClampNeg) p0 → (vp_in (σ4.1 8 0) 4 ∧ (∀ σ6 : hs_St, σ6 = hs_w σ4 10 ((σ4.1 8 0).toNatClampNeg) p1 → (vp_in (σ6.1 8 0) 4 ∧ (∀ σ8 : hs_St, σ8 = hs_w σ6 11 ((σ6.1 8 0).toNatClampNeg) p2 → (vp_in (σ8.1 8 0) 4 ∧ (∀ σ10 : hs_St, σ10 = hs_w σ8 12 ((σ8.1 8 0).toNatClampNeg) p3 → (vp_in (σ10.1 8 0) 4 ∧ (∀ σ12 : hs_St, σ12 = hs_w σ10 13 ((σ10.1 8 0).toNatClampNeg) 0 → (∀ σ14 : hs_St, σ14 = hs_w σ12 8 0 ((σ12.1 8 0) + 1) → (K σ14)))))))))))))) : OkV m_X3_addGhost [.ref 8, .int p0, .int p1, .int p2, .int p3] σ K := hs_ok_of rfl (Nat.le_of_ble_eq_true rfl) (show hs_Rn m_X3_addGhost 0 [(0, .ref 8), (1, .int p0), (2, .int p1), (3, .int p2), (4, .int p3)] [] σ _ from (hr_aload_n (hs_tb tb_X3_addGhost 0 rfl) 0 rfl (hr_getI (hs_tb tb_X3_addGhost 1 rfl) fl_X3_42 fx_8_0 (hr_iconst (v := 4) (hs_tb tb_X3_addGhost 2 rfl) rfl (hr_icmp_ge (tgt := 69) (hs_tb tb_X3_addGhost 3 rfl) rfl (fun c1 => have h2 := h.1 c1; (hr_vret (hs_tb tb_X3_addGhost 40 rfl) rfl ⟨rfl, h2⟩)) (fun c1 => have h3 := h.2 c1; (hr_aload_n (hs_tb tb_X3_addGhost 4 rfl) 0 rfl (hr_getR (hs_tb tb_X3_addGhost 5 rfl) fl_X3_9 fx_8_1 (hr_aload_n (hs_tb tb_X3_addGhost 6 rfl) 0 rfl (hr_getI (hs_tb tb_X3_addGhost 7 rfl) fl_X3_42 fx_8_0 (hr_iload_n (hs_tb tb_X3_addGhost 8 rfl) 1 rfl (hr_iast (hs_tb tb_X3_addGhost 9 rfl) ax_9 h3.1 (hr_nms (fun σ4 eσ4 => have h5 := h3.2 σ4 eσ4; (hr_aload_n (hs_tb tb_X3_addGhost 10 rfl) 0 rfl (hr_getR (hs_tb tb_X3_addGhost 11 rfl) fl_X3_15 fx_8_2 (hr_aload_n (hs_tb tb_X3_addGhost 12 rfl) 0 rfl (hr_getI (hs_tb tb_X3_addGhost 13 rfl) fl_X3_42 fx_8_0 (hr_iload_n (hs_tb tb_X3_addGhost 14 rfl) 2 rfl (hr_iast (hs_tb tb_X3_addGhost 15 rfl) ax_10 h5.1 (hr_nms (fun σ6 eσ6 => have h7 := h5.2 σ6 eσ6; (hr_aload_n (hs_tb tb_X3_addGhost 16 rfl) 0 rfl (hr_getR (hs_tb tb_X3_addGhost 17 rfl) fl_X3_18 fx_8_3 (hr_aload_n (hs_tb tb_X3_addGhost 18 rfl) 0 rfl (hr_getI (hs_tb tb_X3_addGhost 19 rfl) fl_X3_42 fx_8_0 (hr_iload_n (hs_tb tb_X3_addGhost 20 rfl) 3 rfl (hr_iast (hs_tb tb_X3_addGhost 21 rfl) ax_11 h7.1 (hr_nms (fun σ8 eσ8 => have h9 := h7.2 σ8 eσ8; (hr_aload_n (hs_tb tb_X3_addGhost 22 rfl) 0 rfl (hr_getR (hs_tb tb_X3_addGhost 23 rfl) fl_X3_21 fx_8_4 (hr_aload_n (hs_tb tb_X3_addGhost 24 rfl) 0 rfl (hr_getI (hs_tb tb_X3_addGhost 25 rfl) fl_X3_42 fx_8_0 (hr_iload (hs_tb tb_X3_addGhost 26 rfl) 4 rfl (hr_iast (hs_tb tb_X3_addGhost 27 rfl) ax_12 h9.1 (hr_nms (fun σ10 eσ10 => have h11 := h9.2 σ10 eσ10; (hr_aload_n (hs_tb tb_X3_addGhost 28 rfl) 0 rfl (hr_getR (hs_tb tb_X3_addGhost 29 rfl) fl_X3_24 fx_8_5 (hr_aload_n (hs_tb tb_X3_addGhost 30 rfl) 0 rfl (hr_getI (hs_tb tb_X3_addGhost 31 rfl) fl_X3_42 fx_8_0 (hr_iconst (v := 0) (hs_tb tb_X3_addGhost 32 rfl) rfl (hr_iast (hs_tb tb_X3_addGhost 33 rfl) ax_13 h11.1 (hr_nms (fun σ12 eσ12 => have h13 := h11.2 σ12 eσ12; (hr_aload_n (hs_tb tb_X3_addGhost 34 rfl) 0 rfl (hr_dup (hs_tb tb_X3_addGhost 35 rfl) rfl (hr_getI (hs_tb tb_X3_addGhost 36 rfl) fl_X3_42 fx_8_0 (hr_iconst (v := 1) (hs_tb tb_X3_addGhost 37 rfl) rfl (hr_iadd (hs_tb tb_X3_addGhost 38 rfl) (hr_put (hs_tb tb_X3_addGhost 39 rfl) fl_X3_42 fx_8_0 fw_3_0 (hr_nms (fun σ14 eσ14 => have h15 := h13 σ14 eσ14; (hr_vret (hs_tb tb_X3_addGhost 40 rfl) rfl ⟨rfl, h15⟩)))))))))))))))))))))))))))))))))))))))))))))))))))))))
set_option maxHeartbeats 4000000 in
set_option maxRecDepth 100000 in
theorem vc_X3_addGhost_22 {p0 : Int32} {p1 : Int32} {p2 : Int32} {p3 : Int32} {σ : hs_St} {K : hs_St → Prop} (h : (4 ≤ (σ.1 22 0) → (K σ)) ∧ (¬ 4 ≤ (σ.1 22 0) → (vp_in (σ.1 22 0) 4 ∧ (∀ σ4 : hs_St, σ4 = hs_w σ 23 ((σ.1 22 0).toNatClampNeg) p0 → (vp_in (σ4.1 22 0) 4 ∧ (∀ σ6 : hs_St, σ6 = hs_w σ4 24 ((σ4.1 22 0).toNatClampNeg) p1 → (vp_in (σ6.1 22 0) 4 ∧ (∀ σ8 : hs_St, σ8 = hs_w σ6 25 ((σ6.1 22 0).toNatClampNeg) p2 → (vp_in (σ8.1 22 0) 4 ∧ (∀ σ10 : hs_St, σ10 = hs_w σ8 26 ((σ8.1 22 0).toNatClampNeg) p3 → (vp_in (σ10.1 22 0) 4 ∧ (∀ σ12 : hs_St, σ12 = hs_w σ10 27 ((σ10.1 22 0).toNatClampNeg) 0 → (∀ σ14 : hs_St, σ14 = hs_w σ12 22 0 ((σ12.1 22 0) + 1) → (K σ14)))))))))))))) : OkV m_X3_addGhost [.ref 22, .int p0, .int p1, .int p2, .int p3] σ K := hs_ok_of rfl (Nat.le_of_ble_eq_true rfl) (show hs_Rn m_X3_addGhost 0 [(0, .ref 22), (1, .int p0), (2, .int p1), (3, .int p2), (4, .int p3)] [] σ _ from (hr_aload_n (hs_tb tb_X3_addGhost 0 rfl) 0 rfl (hr_getI (hs_tb tb_X3_addGhost 1 rfl) fl_X3_42 fx_22_0 (hr_iconst (v := 4) (hs_tb tb_X3_addGhost 2 rfl) rfl (hr_icmp_ge (tgt := 69) (hs_tb tb_X3_addGhost 3 rfl) rfl (fun c1 => have h2 := h.1 c1; (hr_vret (hs_tb tb_X3_addGhost 40 rfl) rfl ⟨rfl, h2⟩)) (fun c1 => have h3 := h.2 c1; (hr_aload_n (hs_tb tb_X3_addGhost 4 rfl) 0 rfl (hr_getR (hs_tb tb_X3_addGhost 5 rfl) fl_X3_9 fx_22_1 (hr_aload_n (hs_tb tb_X3_addGhost 6 rfl) 0 rfl (hr_getI (hs_tb tb_X3_addGhost 7 rfl) fl_X3_42 fx_22_0 (hr_iload_n (hs_tb tb_X3_addGhost 8 rfl) 1 rfl (hr_iast (hs_tb tb_X3_addGhost 9 rfl) ax_23 h3.1 (hr_nms (fun σ4 eσ4 => have h5 := h3.2 σ4 eσ4; (hr_aload_n (hs_tb tb_X3_addGhost 10 rfl) 0 rfl (hr_getR (hs_tb tb_X3_addGhost 11 rfl) fl_X3_15 fx_22_2 (hr_aload_n (hs_tb tb_X3_addGhost 12 rfl) 0 rfl (hr_getI (hs_tb tb_X3_addGhost 13 rfl) fl_X3_42 fx_22_0 (hr_iload_n (hs_tb tb_X3_addGhost 14 rfl) 2 rfl (hr_iast (hs_tb tb_X3_addGhost 15 rfl) ax_24 h5.1 (hr_nms (fun σ6 eσ6 => have h7 := h5.2 σ6 eσ6; (hr_aload_n (hs_tb tb_X3_addGhost 16 rfl) 0 rfl (hr_getR (hs_tb tb_X3_addGhost 17 rfl) fl_X3_18 fx_22_3 (hr_aload_n (hs_tb tb_X3_addGhost 18 rfl) 0 rfl (hr_getI (hs_tb tb_X3_addGhost 19 rfl) fl_X3_42 fx_22_0 (hr_iload_n (hs_tb tb_X3_addGhost 20 rfl) 3 rfl (hr_iast (hs_tb tb_X3_addGhost 21 rfl) ax_25 h7.1 (hr_nms (fun σ8 eσ8 => have h9 := h7.2 σ8 eσ8; (hr_aload_n (hs_tb tb_X3_addGhost 22 rfl) 0 rfl (hr_getR (hs_tb tb_X3_addGhost 23 rfl) fl_X3_21 fx_22_4 (hr_aload_n (hs_tb tb_X3_addGhost 24 rfl) 0 rfl (hr_getI (hs_tb tb_X3_addGhost 25 rfl) fl_X3_42 fx_22_0 (hr_iload (hs_tb tb_X3_addGhost 26 rfl) 4 rfl (hr_iast (hs_tb tb_X3_addGhost 27 rfl) ax_26 h9.1 (hr_nms (fun σ10 eσ10 => have h11 := h9.2 σ10 eσ10; (hr_aload_n (hs_tb tb_X3_addGhost 28 rfl) 0 rfl (hr_getR (hs_tb tb_X3_addGhost 29 rfl) fl_X3_24 fx_22_5 (hr_aload_n (hs_tb tb_X3_addGhost 30 rfl) 0 rfl (hr_getI (hs_tb tb_X3_addGhost 31 rfl) fl_X3_42 fx_22_0 (hr_iconst (v := 0) (hs_tb tb_X3_addGhost 32 rfl) rfl (hr_iast (hs_tb tb_X3_addGhost 33 rfl) ax_27 h11.1 (hr_nms (fun σ12 eσ12 => have h13 := h11.2 σ12 eσ12; (hr_aload_n (hs_tb tb_X3_addGhost 34 rfl) 0 rfl (hr_dup (hs_tb tb_X3_addGhost 35 rfl) rfl (hr_getI (hs_tb tb_X3_addGhost 36 rfl) fl_X3_42 fx_22_0 (hr_iconst (v := 1) (hs_tb tb_X3_addGhost 37 rfl) rfl (hr_iadd (hs_tb tb_X3_addGhost 38 rfl) (hr_put (hs_tb tb_X3_addGhost 39 rfl) fl_X3_42 fx_22_0 fw_3_0 (hr_nms (fun σ14 eσ14 => have h15 := h13 σ14 eσ14; (hr_vret (hs_tb tb_X3_addGhost 40 rfl) rfl ⟨rfl, h15⟩)))))))))))))))))))))))))))))))))))))))))))))))))))))))
set_option maxHeartbeats 4000000 in
set_option maxRecDepth 100000 in
theorem vc_X3_addClerk_22 {p0 : Int32} {p1 : Int32} {σ : hs_St} {K : hs_St → Prop} (h : (3 ≤ (σ.1 22 6) → (K σ)) ∧ (¬ 3 ≤ (σ.1 22 6) → (vp_in (σ.1 22 6) 3 ∧ (∀ σ4 : hs_St, σ4 = hs_w σ 28 ((σ.1 22 6).toNatClampNeg) p0 → (vp_in (σ4.1 22 6) 3 ∧ (∀ σ6 : hs_St, σ6 = hs_w σ4 29 ((σ4.1 22 6).toNatClampNeg) p1 → (∀ σ8 : hs_St, σ8 = hs_w σ6 22 6 ((σ6.1 22 6) + 1) → (K σ8)))))))) : OkV m_X3_addClerk [.ref 22, .int p0, .int p1] σ K := hs_ok_of rfl (Nat.le_of_ble_eq_true rfl) (show hs_Rn m_X3_addClerk 0 [(0, .ref 22), (1, .int p0), (2, .int p1)] [] σ _ from (hr_aload_n (hs_tb tb_X3_addClerk 0 rfl) 0 rfl (hr_getI (hs_tb tb_X3_addClerk 1 rfl) fl_X3_46 fx_22_6 (hr_iconst (v := 3) (hs_tb tb_X3_addClerk 2 rfl) rfl (hr_icmp_ge (tgt := 38) (hs_tb tb_X3_addClerk 3 rfl) rfl (fun c1 => have h2 := h.1 c1; (hr_vret (hs_tb tb_X3_addClerk 22 rfl) rfl ⟨rfl, h2⟩)) (fun c1 => have h3 := h.2 c1; (hr_aload_n (hs_tb tb_X3_addClerk 4 rfl) 0 rfl (hr_getR (hs_tb tb_X3_addClerk 5 rfl) fl_X3_27 fx_22_7 (hr_aload_n (hs_tb tb_X3_addClerk 6 rfl) 0 rfl (hr_getI (hs_tb tb_X3_addClerk 7 rfl) fl_X3_46 fx_22_6 (hr_iload_n (hs_tb tb_X3_addClerk 8 rfl) 1 rfl (hr_iast (hs_tb tb_X3_addClerk 9 rfl) ax_28 h3.1 (hr_nms (fun σ4 eσ4 => have h5 := h3.2 σ4 eσ4; (hr_aload_n (hs_tb tb_X3_addClerk 10 rfl) 0 rfl (hr_getR (hs_tb tb_X3_addClerk 11 rfl) fl_X3_30 fx_22_8 (hr_aload_n (hs_tb tb_X3_addClerk 12 rfl) 0 rfl (hr_getI (hs_tb tb_X3_addClerk 13 rfl) fl_X3_46 fx_22_6 (hr_iload_n (hs_tb tb_X3_addClerk 14 rfl) 2 rfl (hr_iast (hs_tb tb_X3_addClerk 15 rfl) ax_29 h5.1 (hr_nms (fun σ6 eσ6 => have h7 := h5.2 σ6 eσ6; (hr_aload_n (hs_tb tb_X3_addClerk 16 rfl) 0 rfl (hr_dup (hs_tb tb_X3_addClerk 17 rfl) rfl (hr_getI (hs_tb tb_X3_addClerk 18 rfl) fl_X3_46 fx_22_6 (hr_iconst (v := 1) (hs_tb tb_X3_addClerk 19 rfl) rfl (hr_iadd (hs_tb tb_X3_addClerk 20 rfl) (hr_put (hs_tb tb_X3_addClerk 21 rfl) fl_X3_46 fx_22_6 fw_3_6 (hr_nms (fun σ8 eσ8 => have h9 := h7 σ8 eσ8; (hr_vret (hs_tb tb_X3_addClerk 22 rfl) rfl ⟨rfl, h9⟩)))))))))))))))))))))))))))))))
set_option maxHeartbeats 4000000 in
set_option maxRecDepth 100000 in
theorem vc_X3_told {p0 : Int32} {p1 : Int32} {σ : hs_St} {K : Int32 → hs_St → Prop} (h : (p1.toInt = 0 → (vp_in p0 4 ∧ (K (σ.1 9 (p0.toNatClampNeg)) σ))) ∧ (p1.toInt = 1 → (vp_in p0 4 ∧ (K (σ.1 10 (p0.toNatClampNeg)) σ))) ∧ (p1.toInt = 2 → (vp_in p0 4 ∧ (K (σ.1 11 (p0.toNatClampNeg)) σ))) ∧ (p1.toInt = 3 → (vp_in p0 4 ∧ (K (σ.1 12 (p0.toNatClampNeg)) σ))) ∧ ((p1.toInt < 0 ∨ 3 < p1.toInt) → (vp_in p0 4 ∧ (K (σ.1 13 (p0.toNatClampNeg)) σ)))) : OkI m_X3_told [.ref 8, .int p0, .int p1] σ K := hs_ok_of rfl (Nat.le_of_ble_eq_true rfl) (show hs_Rn m_X3_told 0 [(0, .ref 8), (1, .int p0), (2, .int p1)] [] σ _ from (hr_iload_n (hs_tb tb_X3_told 0 rfl) 2 rfl (hr_tab (hs_tb tb_X3_told 1 rfl) rfl (fun j => [32, 39, 46, 53].getD j 0) 60 (by decide) rfl (fun j hj hx => match j, hj, hx with | 0, _, hx => (have h1 := h.1 hx; (hr_aload_n (hs_tb tb_X3_told 2 rfl) 0 rfl (hr_getR (hs_tb tb_X3_told 3 rfl) fl_X3_9 fx_8_1 (hr_iload_n (hs_tb tb_X3_told 4 rfl) 1 rfl (hr_iald (hs_tb tb_X3_told 5 rfl) ax_9 h1.1 (hr_iret (hs_tb tb_X3_told 6 rfl) rfl ⟨_, rfl, h1.2⟩)))))) | 1, _, hx => (have h2 := h.2.1 hx; (hr_aload_n (hs_tb tb_X3_told 7 rfl) 0 rfl (hr_getR (hs_tb tb_X3_told 8 rfl) fl_X3_15 fx_8_2 (hr_iload_n (hs_tb tb_X3_told 9 rfl) 1 rfl (hr_iald (hs_tb tb_X3_told 10 rfl) ax_10 h2.1 (hr_iret (hs_tb tb_X3_told 11 rfl) rfl ⟨_, rfl, h2.2⟩)))))) | 2, _, hx => (have h3 := h.2.2.1 hx; (hr_aload_n (hs_tb tb_X3_told 12 rfl) 0 rfl (hr_getR (hs_tb tb_X3_told 13 rfl) fl_X3_18 fx_8_3 (hr_iload_n (hs_tb tb_X3_told 14 rfl) 1 rfl (hr_iald (hs_tb tb_X3_told 15 rfl) ax_11 h3.1 (hr_iret (hs_tb tb_X3_told 16 rfl) rfl ⟨_, rfl, h3.2⟩)))))) | 3, _, hx => (have h4 := h.2.2.2.1 hx; (hr_aload_n (hs_tb tb_X3_told 17 rfl) 0 rfl (hr_getR (hs_tb tb_X3_told 18 rfl) fl_X3_21 fx_8_4 (hr_iload_n (hs_tb tb_X3_told 19 rfl) 1 rfl (hr_iald (hs_tb tb_X3_told 20 rfl) ax_12 h4.1 (hr_iret (hs_tb tb_X3_told 21 rfl) rfl ⟨_, rfl, h4.2⟩)))))) | (j + 4), hj, _ => absurd hj (by simp)) (fun hx => have h5 := h.2.2.2.2 hx; (hr_aload_n (hs_tb tb_X3_told 22 rfl) 0 rfl (hr_getR (hs_tb tb_X3_told 23 rfl) fl_X3_24 fx_8_5 (hr_iload_n (hs_tb tb_X3_told 24 rfl) 1 rfl (hr_iald (hs_tb tb_X3_told 25 rfl) ax_13 h5.1 (hr_iret (hs_tb tb_X3_told 26 rfl) rfl ⟨_, rfl, h5.2⟩)))))))))
set_option maxHeartbeats 4000000 in
set_option maxRecDepth 100000 in
theorem vc_X3_tell {p0 : Int32} {p1 : Int32} {p2 : Int32} {σ : hs_St} {K : hs_St → Prop} (h : (p1.toInt = 0 → (vp_in p0 4 ∧ (∀ σ2 : hs_St, σ2 = hs_w σ 9 (p0.toNatClampNeg) p2 → (K σ2)))) ∧ (p1.toInt = 1 → (vp_in p0 4 ∧ (∀ σ5 : hs_St, σ5 = hs_w σ 10 (p0.toNatClampNeg) p2 → (K σ5)))) ∧ (p1.toInt = 2 → (vp_in p0 4 ∧ (∀ σ8 : hs_St, σ8 = hs_w σ 11 (p0.toNatClampNeg) p2 → (K σ8)))) ∧ (p1.toInt = 3 → (vp_in p0 4 ∧ (∀ σ11 : hs_St, σ11 = hs_w σ 12 (p0.toNatClampNeg) p2 → (K σ11)))) ∧ ((p1.toInt < 0 ∨ 3 < p1.toInt) → (vp_in p0 4 ∧ (∀ σ14 : hs_St, σ14 = hs_w σ 13 (p0.toNatClampNeg) p2 → (K σ14))))) : OkV m_X3_tell [.ref 8, .int p0, .int p1, .int p2] σ K := hs_ok_of rfl (Nat.le_of_ble_eq_true rfl) (show hs_Rn m_X3_tell 0 [(0, .ref 8), (1, .int p0), (2, .int p1), (3, .int p2)] [] σ _ from (hr_iload_n (hs_tb tb_X3_tell 0 rfl) 2 rfl (hr_tab (hs_tb tb_X3_tell 1 rfl) rfl (fun j => [32, 42, 52, 62].getD j 0) 72 (by decide) rfl (fun j hj hx => match j, hj, hx with | 0, _, hx => (have h1 := h.1 hx; (hr_aload_n (hs_tb tb_X3_tell 2 rfl) 0 rfl (hr_getR (hs_tb tb_X3_tell 3 rfl) fl_X3_9 fx_8_1 (hr_iload_n (hs_tb tb_X3_tell 4 rfl) 1 rfl (hr_iload_n (hs_tb tb_X3_tell 5 rfl) 3 rfl (hr_iast (hs_tb tb_X3_tell 6 rfl) ax_9 h1.1 (hr_nms (fun σ2 eσ2 => have h3 := h1.2 σ2 eσ2; (hr_goto (tgt := 79) (hs_tb tb_X3_tell 7 rfl) rfl (hr_vret (hs_tb tb_X3_tell 31 rfl) rfl ⟨rfl, h3⟩)))))))))) | 1, _, hx => (have h4 := h.2.1 hx; (hr_aload_n (hs_tb tb_X3_tell 8 rfl) 0 rfl (hr_getR (hs_tb tb_X3_tell 9 rfl) fl_X3_15 fx_8_2 (hr_iload_n (hs_tb tb_X3_tell 10 rfl) 1 rfl (hr_iload_n (hs_tb tb_X3_tell 11 rfl) 3 rfl (hr_iast (hs_tb tb_X3_tell 12 rfl) ax_10 h4.1 (hr_nms (fun σ5 eσ5 => have h6 := h4.2 σ5 eσ5; (hr_goto (tgt := 79) (hs_tb tb_X3_tell 13 rfl) rfl (hr_vret (hs_tb tb_X3_tell 31 rfl) rfl ⟨rfl, h6⟩)))))))))) | 2, _, hx => (have h7 := h.2.2.1 hx; (hr_aload_n (hs_tb tb_X3_tell 14 rfl) 0 rfl (hr_getR (hs_tb tb_X3_tell 15 rfl) fl_X3_18 fx_8_3 (hr_iload_n (hs_tb tb_X3_tell 16 rfl) 1 rfl (hr_iload_n (hs_tb tb_X3_tell 17 rfl) 3 rfl (hr_iast (hs_tb tb_X3_tell 18 rfl) ax_11 h7.1 (hr_nms (fun σ8 eσ8 => have h9 := h7.2 σ8 eσ8; (hr_goto (tgt := 79) (hs_tb tb_X3_tell 19 rfl) rfl (hr_vret (hs_tb tb_X3_tell 31 rfl) rfl ⟨rfl, h9⟩)))))))))) | 3, _, hx => (have h10 := h.2.2.2.1 hx; (hr_aload_n (hs_tb tb_X3_tell 20 rfl) 0 rfl (hr_getR (hs_tb tb_X3_tell 21 rfl) fl_X3_21 fx_8_4 (hr_iload_n (hs_tb tb_X3_tell 22 rfl) 1 rfl (hr_iload_n (hs_tb tb_X3_tell 23 rfl) 3 rfl (hr_iast (hs_tb tb_X3_tell 24 rfl) ax_12 h10.1 (hr_nms (fun σ11 eσ11 => have h12 := h10.2 σ11 eσ11; (hr_goto (tgt := 79) (hs_tb tb_X3_tell 25 rfl) rfl (hr_vret (hs_tb tb_X3_tell 31 rfl) rfl ⟨rfl, h12⟩)))))))))) | (j + 4), hj, _ => absurd hj (by simp)) (fun hx => have h13 := h.2.2.2.2 hx; (hr_aload_n (hs_tb tb_X3_tell 26 rfl) 0 rfl (hr_getR (hs_tb tb_X3_tell 27 rfl) fl_X3_24 fx_8_5 (hr_iload_n (hs_tb tb_X3_tell 28 rfl) 1 rfl (hr_iload_n (hs_tb tb_X3_tell 29 rfl) 3 rfl (hr_iast (hs_tb tb_X3_tell 30 rfl) ax_13 h13.1 (hr_nms (fun σ14 eσ14 => have h15 := h13.2 σ14 eσ14; (hr_vret (hs_tb tb_X3_tell 31 rfl) rfl ⟨rfl, h15⟩))))))))))))
set_option maxHeartbeats 4000000 in
set_option maxRecDepth 100000 in
theorem vc_X3_answer {p0 : Int32} {σ : hs_St} {K : Int32 → hs_St → Prop} (h : vp_in p0 4 ∧ (OkI m_X5_answerOf [.int (σ.1 9 (p0.toNatClampNeg)), .int (σ.1 10 (p0.toNatClampNeg)), .int (σ.1 11 (p0.toNatClampNeg))] σ (fun r1 σ2 => K r1 σ2))) : OkI m_X3_answer [.ref 8, .int p0] σ K := hs_ok_of rfl (Nat.le_of_ble_eq_true rfl) (show hs_Rn m_X3_answer 0 [(0, .ref 8), (1, .int p0)] [] σ _ from (hr_aload_n (hs_tb tb_X3_answer 0 rfl) 0 rfl (hr_getR (hs_tb tb_X3_answer 1 rfl) fl_X3_9 fx_8_1 (hr_iload_n (hs_tb tb_X3_answer 2 rfl) 1 rfl (hr_iald (hs_tb tb_X3_answer 3 rfl) ax_9 h.1 (hr_aload_n (hs_tb tb_X3_answer 4 rfl) 0 rfl (hr_getR (hs_tb tb_X3_answer 5 rfl) fl_X3_15 fx_8_2 (hr_iload_n (hs_tb tb_X3_answer 6 rfl) 1 rfl (hr_iald (hs_tb tb_X3_answer 7 rfl) ax_10 h.1 (hr_aload_n (hs_tb tb_X3_answer 8 rfl) 0 rfl (hr_getR (hs_tb tb_X3_answer 9 rfl) fl_X3_18 fx_8_3 (hr_iload_n (hs_tb tb_X3_answer 10 rfl) 1 rfl (hr_iald (hs_tb tb_X3_answer 11 rfl) ax_11 h.1 (hr_callN (y := m_X5_answerOf) (As := [.int (σ.1 9 (p0.toNatClampNeg)), .int (σ.1 10 (p0.toNatClampNeg)), .int (σ.1 11 (p0.toNatClampNeg))]) (st := []) (hs_tb tb_X3_answer 12 rfl) mn_X3_65 cm_X5_answerOf wt_X5_answerOf rfl ⟨Nat.le_of_ble_eq_true rfl, Nat.le_of_ble_eq_true rfl, Nat.le_of_ble_eq_true rfl⟩ (OkI.go h.2 (fun r1 σ2 h3 => (show hs_Rn m_X3_answer 21 [(0, .ref 8), (1, .int p0)] [.int r1] σ2 _ from (hr_iret (hs_tb tb_X3_answer 13 rfl) rfl ⟨_, rfl, h3⟩))))))))))))))))))
set_option maxHeartbeats 4000000 in
set_option maxRecDepth 100000 in
theorem vc_X3_steps {p0 : Int32} {σ : hs_St} {K : Int32 → hs_St → Prop} (h : vp_in p0 4 ∧ (OkI m_X3_answer [.ref 8, .int p0] σ (fun r1 σ2 => OkI m_X5_stepsOf [.int (σ.1 9 (p0.toNatClampNeg)), .int r1] σ2 (fun r4 σ5 => K r4 σ5)))) : OkI m_X3_steps [.ref 8, .int p0] σ K := hs_ok_of rfl (Nat.le_of_ble_eq_true rfl) (show hs_Rn m_X3_steps 0 [(0, .ref 8), (1, .int p0)] [] σ _ from (hr_aload_n (hs_tb tb_X3_steps 0 rfl) 0 rfl (hr_getR (hs_tb tb_X3_steps 1 rfl) fl_X3_9 fx_8_1 (hr_iload_n (hs_tb tb_X3_steps 2 rfl) 1 rfl (hr_iald (hs_tb tb_X3_steps 3 rfl) ax_9 h.1 (hr_aload_n (hs_tb tb_X3_steps 4 rfl) 0 rfl (hr_iload_n (hs_tb tb_X3_steps 5 rfl) 1 rfl (hr_callV (y := m_X3_answer) (As := [.int p0]) (st := [.int (σ.1 9 (p0.toNatClampNeg))]) (k := 8) (hs_tb tb_X3_steps 6 rfl) ml_X3_69 cm_X3_answer cv_X3_answer rfl ⟨Nat.le_of_ble_eq_true rfl, Nat.le_of_ble_eq_true rfl, Nat.le_of_ble_eq_true rfl⟩ rfl rfl (OkI.go h.2 (fun r1 σ2 h3 => (show hs_Rn m_X3_steps 11 [(0, .ref 8), (1, .int p0)] [.int r1, .int (σ.1 9 (p0.toNatClampNeg))] σ2 _ from (hr_callN (y := m_X5_stepsOf) (As := [.int (σ.1 9 (p0.toNatClampNeg)), .int r1]) (st := []) (hs_tb tb_X3_steps 7 rfl) mn_X3_73 cm_X5_stepsOf wt_X5_stepsOf rfl ⟨Nat.le_of_ble_eq_true rfl, Nat.le_of_ble_eq_true rfl, Nat.le_of_ble_eq_true rfl⟩ (OkI.go h3 (fun r4 σ5 h6 => (show hs_Rn m_X3_steps 14 [(0, .ref 8), (1, .int p0)] [.int r4] σ5 _ from (hr_iret (hs_tb tb_X3_steps 8 rfl) rfl ⟨_, rfl, h6⟩))))))))))))))))
set_option maxHeartbeats 4000000 in
set_option maxRecDepth 100000 in
theorem vc_X3_left {p0 : Int32} {σ : hs_St} {K : Int32 → hs_St → Prop} (h : OkI m_X3_steps [.ref 8, .int p0] σ (fun r1 σ2 => vp_in p0 4 ∧ (K (hs_mx 0 (r1 - (σ2.1 13 (p0.toNatClampNeg)))) σ2))) : OkI m_X3_left [.ref 8, .int p0] σ K := hs_ok_of rfl (Nat.le_of_ble_eq_true rfl) (show hs_Rn m_X3_left 0 [(0, .ref 8), (1, .int p0)] [] σ _ from (hr_iconst (v := 0) (hs_tb tb_X3_left 0 rfl) rfl (hr_aload_n (hs_tb tb_X3_left 1 rfl) 0 rfl (hr_iload_n (hs_tb tb_X3_left 2 rfl) 1 rfl (hr_callV (y := m_X3_steps) (As := [.int p0]) (st := [.int 0]) (k := 8) (hs_tb tb_X3_left 3 rfl) ml_X3_77 cm_X3_steps cv_X3_steps rfl ⟨Nat.le_of_ble_eq_true rfl, Nat.le_of_ble_eq_true rfl, Nat.le_of_ble_eq_true rfl⟩ rfl rfl (OkI.go h (fun r1 σ2 h3 => (show hs_Rn m_X3_left 6 [(0, .ref 8), (1, .int p0)] [.int r1, .int 0] σ2 _ from (hr_aload_n (hs_tb tb_X3_left 4 rfl) 0 rfl (hr_getR (hs_tb tb_X3_left 5 rfl) fl_X3_24 fx_8_5 (hr_iload_n (hs_tb tb_X3_left 6 rfl) 1 rfl (hr_iald (hs_tb tb_X3_left 7 rfl) ax_13 h3.1 (hr_isub (hs_tb tb_X3_left 8 rfl) (hr_max (hs_tb tb_X3_left 9 rfl) ml_X3_80 w_st_max w_in_math w_cd_max (Nat.le_of_ble_eq_true rfl) (Nat.le_of_ble_eq_true rfl) (hr_iret (hs_tb tb_X3_left 10 rfl) rfl ⟨_, rfl, h3.2⟩)))))))))))))))
set_option maxHeartbeats 4000000 in
set_option maxRecDepth 100000 in
theorem vc_X3_creaks {p0 : Int32} {σ : hs_St} {K : Int32 → hs_St → Prop} (h : vp_in p0 4 ∧ (OkI m_X5_sevensOf [.int (σ.1 10 (p0.toNatClampNeg))] σ (fun r1 σ2 => OkI m_X5_sevensOf [.int (σ2.1 11 (p0.toNatClampNeg))] σ2 (fun r4 σ5 => OkI m_X3_answer [.ref 8, .int p0] σ5 (fun r7 σ8 => OkI m_X5_sevensOf [.int r7] σ8 (fun r10 σ11 => K ((r1 + r4) + r10) σ11)))))) : OkI m_X3_creaks [.ref 8, .int p0] σ K := hs_ok_of rfl (Nat.le_of_ble_eq_true rfl) (show hs_Rn m_X3_creaks 0 [(0, .ref 8), (1, .int p0)] [] σ _ from (hr_aload_n (hs_tb tb_X3_creaks 0 rfl) 0 rfl (hr_getR (hs_tb tb_X3_creaks 1 rfl) fl_X3_15 fx_8_2 (hr_iload_n (hs_tb tb_X3_creaks 2 rfl) 1 rfl (hr_iald (hs_tb tb_X3_creaks 3 rfl) ax_10 h.1 (hr_callN (y := m_X5_sevensOf) (As := [.int (σ.1 10 (p0.toNatClampNeg))]) (st := []) (hs_tb tb_X3_creaks 4 rfl) mn_X3_85 cm_X5_sevensOf wt_X5_sevensOf rfl ⟨Nat.le_of_ble_eq_true rfl, Nat.le_of_ble_eq_true rfl, Nat.le_of_ble_eq_true rfl⟩ (OkI.go h.2 (fun r1 σ2 h3 => (show hs_Rn m_X3_creaks 9 [(0, .ref 8), (1, .int p0)] [.int r1] σ2 _ from (hr_aload_n (hs_tb tb_X3_creaks 5 rfl) 0 rfl (hr_getR (hs_tb tb_X3_creaks 6 rfl) fl_X3_18 fx_8_3 (hr_iload_n (hs_tb tb_X3_creaks 7 rfl) 1 rfl (hr_iald (hs_tb tb_X3_creaks 8 rfl) ax_11 h.1 (hr_callN (y := m_X5_sevensOf) (As := [.int (σ2.1 11 (p0.toNatClampNeg))]) (st := [.int r1]) (hs_tb tb_X3_creaks 9 rfl) mn_X3_85 cm_X5_sevensOf wt_X5_sevensOf rfl ⟨Nat.le_of_ble_eq_true rfl, Nat.le_of_ble_eq_true rfl, Nat.le_of_ble_eq_true rfl⟩ (OkI.go h3 (fun r4 σ5 h6 => (show hs_Rn m_X3_creaks 18 [(0, .ref 8), (1, .int p0)] [.int r4, .int r1] σ5 _ from (hr_iadd (hs_tb tb_X3_creaks 10 rfl) (hr_aload_n (hs_tb tb_X3_creaks 11 rfl) 0 rfl (hr_iload_n (hs_tb tb_X3_creaks 12 rfl) 1 rfl (hr_callV (y := m_X3_answer) (As := [.int p0]) (st := [.int (r1 + r4)]) (k := 8) (hs_tb tb_X3_creaks 13 rfl) ml_X3_69 cm_X3_answer cv_X3_answer rfl ⟨Nat.le_of_ble_eq_true rfl, Nat.le_of_ble_eq_true rfl, Nat.le_of_ble_eq_true rfl⟩ rfl rfl (OkI.go h6 (fun r7 σ8 h9 => (show hs_Rn m_X3_creaks 24 [(0, .ref 8), (1, .int p0)] [.int r7, .int (r1 + r4)] σ8 _ from (hr_callN (y := m_X5_sevensOf) (As := [.int r7]) (st := [.int (r1 + r4)]) (hs_tb tb_X3_creaks 14 rfl) mn_X3_85 cm_X5_sevensOf wt_X5_sevensOf rfl ⟨Nat.le_of_ble_eq_true rfl, Nat.le_of_ble_eq_true rfl, Nat.le_of_ble_eq_true rfl⟩ (OkI.go h9 (fun r10 σ11 h12 => (show hs_Rn m_X3_creaks 27 [(0, .ref 8), (1, .int p0)] [.int r10, .int (r1 + r4)] σ11 _ from (hr_iadd (hs_tb tb_X3_creaks 15 rfl) (hr_iret (hs_tb tb_X3_creaks 16 rfl) rfl ⟨_, rfl, h12⟩))))))))))))))))))))))))))))))
set_option maxHeartbeats 4000000 in
set_option maxRecDepth 100000 in
theorem vc_X3_creaksOfAll_4 {a1 : Int32} {a2 : Int32} {σ : hs_St} {K : Int32 → hs_St → Prop} (h : ((σ.1 8 0) ≤ a2 → (K a1 σ)) ∧ (¬ (σ.1 8 0) ≤ a2 → (OkI m_X3_creaks [.ref 8, .int a2] σ (fun r4 σ5 => ∀ x7 : Int32, x7 = a1 + r4 → (RnI m_X3_creaksOfAll 4 [(0, .ref 8), (1, .int x7), (2, .int (a2 + 1))] [] σ5 K))))) : RnI m_X3_creaksOfAll 4 [(0, .ref 8), (1, .int a1), (2, .int a2)] [] σ K := (hr_iload_n (hs_tb tb_X3_creaksOfAll 4 rfl) 2 rfl (hr_aload_n (hs_tb tb_X3_creaksOfAll 5 rfl) 0 rfl (hr_getI (hs_tb tb_X3_creaksOfAll 6 rfl) fl_X3_42 fx_8_0 (hr_icmp_ge (tgt := 26) (hs_tb tb_X3_creaksOfAll 7 rfl) rfl (fun c1 => have h2 := h.1 c1; (hr_iload_n (hs_tb tb_X3_creaksOfAll 16 rfl) 1 rfl (hr_iret (hs_tb tb_X3_creaksOfAll 17 rfl) rfl ⟨_, rfl, h2⟩))) (fun c1 => have h3 := h.2 c1; (hr_iload_n (hs_tb tb_X3_creaksOfAll 8 rfl) 1 rfl (hr_aload_n (hs_tb tb_X3_creaksOfAll 9 rfl) 0 rfl (hr_iload_n (hs_tb tb_X3_creaksOfAll 10 rfl) 2 rfl (hr_callV (y := m_X3_creaks) (As := [.int a2]) (st := [.int a1]) (k := 8) (hs_tb tb_X3_creaksOfAll 11 rfl) ml_X3_88 cm_X3_creaks cv_X3_creaks rfl ⟨Nat.le_of_ble_eq_true rfl, Nat.le_of_ble_eq_true rfl, Nat.le_of_ble_eq_true rfl⟩ rfl rfl (OkI.go h3 (fun r4 σ5 h6 => (show hs_Rn m_X3_creaksOfAll 18 [(0, .ref 8), (1, .int a1), (2, .int a2)] [.int r4, .int a1] σ5 _ from (hr_iadd (hs_tb tb_X3_creaksOfAll 12 rfl) (hr_nmi (fun x7 ex7 => have h8 := h6 x7 ex7; (hr_istore_n (lv1 := [(0, .ref 8), (1, .int x7), (2, .int a2)]) (hs_tb tb_X3_creaksOfAll 13 rfl) (by decide) rfl rfl (hr_iinc (v := a2 + 1) (lv1 := [(0, .ref 8), (1, .int x7), (2, .int (a2 + 1))]) (hs_tb tb_X3_creaksOfAll 14 rfl) 2 rfl rfl (by decide) rfl rfl (hr_goto (tgt := 4) (hs_tb tb_X3_creaksOfAll 15 rfl) rfl h8))))))))))))))))))
set_option maxHeartbeats 4000000 in
set_option maxRecDepth 100000 in
theorem vc_X3_creaksOfAll  {σ : hs_St} {K : Int32 → hs_St → Prop} (h : RnI m_X3_creaksOfAll 4 [(0, .ref 8), (1, .int 0), (2, .int 0)] [] σ K) : OkI m_X3_creaksOfAll [.ref 8] σ K := hs_ok_of rfl (Nat.le_of_ble_eq_true rfl) (show hs_Rn m_X3_creaksOfAll 0 [(0, .ref 8)] [] σ _ from (hr_iconst (v := 0) (hs_tb tb_X3_creaksOfAll 0 rfl) rfl (hr_istore_n (lv1 := [(0, .ref 8), (1, .int 0)]) (hs_tb tb_X3_creaksOfAll 1 rfl) (by decide) rfl rfl (hr_iconst (v := 0) (hs_tb tb_X3_creaksOfAll 2 rfl) rfl (hr_istore_n (lv1 := [(0, .ref 8), (1, .int 0), (2, .int 0)]) (hs_tb tb_X3_creaksOfAll 3 rfl) (by decide) rfl rfl h)))))
set_option maxHeartbeats 4000000 in
set_option maxRecDepth 100000 in
theorem vc_X3_skillOfAll_4 {a1 : Int32} {a2 : Int32} {σ : hs_St} {K : Int32 → hs_St → Prop} (h : ((σ.1 8 6) ≤ a2 → (K a1 σ)) ∧ (¬ (σ.1 8 6) ≤ a2 → (vp_in a2 3 ∧ (∀ x4 : Int32, x4 = a1 + (σ.1 15 (a2.toNatClampNeg)) → (RnI m_X3_skillOfAll 4 [(0, .ref 8), (1, .int x4), (2, .int (a2 + 1))] [] σ K))))) : RnI m_X3_skillOfAll 4 [(0, .ref 8), (1, .int a1), (2, .int a2)] [] σ K := (hr_iload_n (hs_tb tb_X3_skillOfAll 4 rfl) 2 rfl (hr_aload_n (hs_tb tb_X3_skillOfAll 5 rfl) 0 rfl (hr_getI (hs_tb tb_X3_skillOfAll 6 rfl) fl_X3_46 fx_8_6 (hr_icmp_ge (tgt := 27) (hs_tb tb_X3_skillOfAll 7 rfl) rfl (fun c1 => have h2 := h.1 c1; (hr_iload_n (hs_tb tb_X3_skillOfAll 17 rfl) 1 rfl (hr_iret (hs_tb tb_X3_skillOfAll 18 rfl) rfl ⟨_, rfl, h2⟩))) (fun c1 => have h3 := h.2 c1; (hr_iload_n (hs_tb tb_X3_skillOfAll 8 rfl) 1 rfl (hr_aload_n (hs_tb tb_X3_skillOfAll 9 rfl) 0 rfl (hr_getR (hs_tb tb_X3_skillOfAll 10 rfl) fl_X3_30 fx_8_8 (hr_iload_n (hs_tb tb_X3_skillOfAll 11 rfl) 2 rfl (hr_iald (hs_tb tb_X3_skillOfAll 12 rfl) ax_15 h3.1 (hr_iadd (hs_tb tb_X3_skillOfAll 13 rfl) (hr_nmi (fun x4 ex4 => have h5 := h3.2 x4 ex4; (hr_istore_n (lv1 := [(0, .ref 8), (1, .int x4), (2, .int a2)]) (hs_tb tb_X3_skillOfAll 14 rfl) (by decide) rfl rfl (hr_iinc (v := a2 + 1) (lv1 := [(0, .ref 8), (1, .int x4), (2, .int (a2 + 1))]) (hs_tb tb_X3_skillOfAll 15 rfl) 2 rfl rfl (by decide) rfl rfl (hr_goto (tgt := 4) (hs_tb tb_X3_skillOfAll 16 rfl) rfl h5))))))))))))))))
set_option maxHeartbeats 4000000 in
set_option maxRecDepth 100000 in
theorem vc_X3_skillOfAll  {σ : hs_St} {K : Int32 → hs_St → Prop} (h : RnI m_X3_skillOfAll 4 [(0, .ref 8), (1, .int 0), (2, .int 0)] [] σ K) : OkI m_X3_skillOfAll [.ref 8] σ K := hs_ok_of rfl (Nat.le_of_ble_eq_true rfl) (show hs_Rn m_X3_skillOfAll 0 [(0, .ref 8)] [] σ _ from (hr_iconst (v := 0) (hs_tb tb_X3_skillOfAll 0 rfl) rfl (hr_istore_n (lv1 := [(0, .ref 8), (1, .int 0)]) (hs_tb tb_X3_skillOfAll 1 rfl) (by decide) rfl rfl (hr_iconst (v := 0) (hs_tb tb_X3_skillOfAll 2 rfl) rfl (hr_istore_n (lv1 := [(0, .ref 8), (1, .int 0), (2, .int 0)]) (hs_tb tb_X3_skillOfAll 3 rfl) (by decide) rfl rfl h)))))
set_option maxHeartbeats 4000000 in
set_option maxRecDepth 100000 in
theorem vc_X3_lastSeenBehind_4 {a1 : Int32} {a2 : Int32} {σ : hs_St} {K : Int32 → hs_St → Prop} (h : ((σ.1 8 10) ≤ a2 → (K a1 σ)) ∧ (¬ (σ.1 8 10) ≤ a2 → (vp_in a2 6 ∧ (∀ x4 : Int32, x4 = hs_mx a1 (σ.1 17 (a2.toNatClampNeg)) → (RnI m_X3_lastSeenBehind 4 [(0, .ref 8), (1, .int x4), (2, .int (a2 + 1))] [] σ K))))) : RnI m_X3_lastSeenBehind 4 [(0, .ref 8), (1, .int a1), (2, .int a2)] [] σ K := (hr_iload_n (hs_tb tb_X3_lastSeenBehind 4 rfl) 2 rfl (hr_aload_n (hs_tb tb_X3_lastSeenBehind 5 rfl) 0 rfl (hr_getI (hs_tb tb_X3_lastSeenBehind 6 rfl) fl_X3_52 fx_8_10 (hr_icmp_ge (tgt := 29) (hs_tb tb_X3_lastSeenBehind 7 rfl) rfl (fun c1 => have h2 := h.1 c1; (hr_iload_n (hs_tb tb_X3_lastSeenBehind 17 rfl) 1 rfl (hr_iret (hs_tb tb_X3_lastSeenBehind 18 rfl) rfl ⟨_, rfl, h2⟩))) (fun c1 => have h3 := h.2 c1; (hr_iload_n (hs_tb tb_X3_lastSeenBehind 8 rfl) 1 rfl (hr_aload_n (hs_tb tb_X3_lastSeenBehind 9 rfl) 0 rfl (hr_getR (hs_tb tb_X3_lastSeenBehind 10 rfl) fl_X3_36 fx_8_12 (hr_iload_n (hs_tb tb_X3_lastSeenBehind 11 rfl) 2 rfl (hr_iald (hs_tb tb_X3_lastSeenBehind 12 rfl) ax_17 h3.1 (hr_max (hs_tb tb_X3_lastSeenBehind 13 rfl) ml_X3_80 w_st_max w_in_math w_cd_max (Nat.le_of_ble_eq_true rfl) (Nat.le_of_ble_eq_true rfl) (hr_nmi (fun x4 ex4 => have h5 := h3.2 x4 ex4; (hr_istore_n (lv1 := [(0, .ref 8), (1, .int x4), (2, .int a2)]) (hs_tb tb_X3_lastSeenBehind 14 rfl) (by decide) rfl rfl (hr_iinc (v := a2 + 1) (lv1 := [(0, .ref 8), (1, .int x4), (2, .int (a2 + 1))]) (hs_tb tb_X3_lastSeenBehind 15 rfl) 2 rfl rfl (by decide) rfl rfl (hr_goto (tgt := 4) (hs_tb tb_X3_lastSeenBehind 16 rfl) rfl h5))))))))))))))))
set_option maxHeartbeats 4000000 in
set_option maxRecDepth 100000 in
theorem vc_X3_lastSeenBehind  {σ : hs_St} {K : Int32 → hs_St → Prop} (h : RnI m_X3_lastSeenBehind 4 [(0, .ref 8), (1, .int ((-1))), (2, .int 0)] [] σ K) : OkI m_X3_lastSeenBehind [.ref 8] σ K := hs_ok_of rfl (Nat.le_of_ble_eq_true rfl) (show hs_Rn m_X3_lastSeenBehind 0 [(0, .ref 8)] [] σ _ from (hr_iconst (v := (-1)) (hs_tb tb_X3_lastSeenBehind 0 rfl) rfl (hr_istore_n (lv1 := [(0, .ref 8), (1, .int ((-1)))]) (hs_tb tb_X3_lastSeenBehind 1 rfl) (by decide) rfl rfl (hr_iconst (v := 0) (hs_tb tb_X3_lastSeenBehind 2 rfl) rfl (hr_istore_n (lv1 := [(0, .ref 8), (1, .int ((-1))), (2, .int 0)]) (hs_tb tb_X3_lastSeenBehind 3 rfl) (by decide) rfl rfl h)))))
set_option maxHeartbeats 4000000 in
set_option maxRecDepth 100000 in
theorem vc_X3_agrees_2 {a2 : Int32} {a3 : Int32} {σ : hs_St} {K : Bool → hs_St → Prop} (h : ((σ.1 8 10) ≤ a3 → (K true σ)) ∧ (¬ (σ.1 8 10) ≤ a3 → (vp_in a3 6 ∧ ((¬ (σ.1 17 (a3.toNatClampNeg)) = a2 → (RnB m_X3_agrees 2 [(0, .ref 8), (1, .ref 1), (2, .int a2), (3, .int (a3 + 1))] [] σ K)) ∧ ((σ.1 17 (a3.toNatClampNeg)) = a2 → (vp_in (σ.1 16 (a3.toNatClampNeg)) 4 ∧ (((σ.1 2 ((σ.1 16 (a3.toNatClampNeg)).toNatClampNeg)) = (σ.1 18 (a3.toNatClampNeg)) → (RnB m_X3_agrees 2 [(0, .ref 8), (1, .ref 1), (2, .int a2), (3, .int (a3 + 1))] [] σ K)) ∧ (¬ (σ.1 2 ((σ.1 16 (a3.toNatClampNeg)).toNatClampNeg)) = (σ.1 18 (a3.toNatClampNeg)) → (K false σ))))))))) : RnB m_X3_agrees 2 [(0, .ref 8), (1, .ref 1), (2, .int a2), (3, .int a3)] [] σ K := (hr_iload_n (hs_tb tb_X3_agrees 2 rfl) 3 rfl (hr_aload_n (hs_tb tb_X3_agrees 3 rfl) 0 rfl (hr_getI (hs_tb tb_X3_agrees 4 rfl) fl_X3_52 fx_8_10 (hr_icmp_ge (tgt := 48) (hs_tb tb_X3_agrees 5 rfl) rfl (fun c1 => have h2 := h.1 c1; (hr_iconst (v := 1) (hs_tb tb_X3_agrees 28 rfl) rfl (hr_zret (b := true) (hs_tb tb_X3_agrees 29 rfl) rfl rfl ⟨_, rfl, h2⟩))) (fun c1 => have h3 := h.2 c1; (hr_aload_n (hs_tb tb_X3_agrees 6 rfl) 0 rfl (hr_getR (hs_tb tb_X3_agrees 7 rfl) fl_X3_36 fx_8_12 (hr_iload_n (hs_tb tb_X3_agrees 8 rfl) 3 rfl (hr_iald (hs_tb tb_X3_agrees 9 rfl) ax_17 h3.1 (hr_iload_n (hs_tb tb_X3_agrees 10 rfl) 2 rfl (hr_icmp_ne (tgt := 42) (hs_tb tb_X3_agrees 11 rfl) rfl (fun c4 => have h5 := h3.2.1 c4; (hr_iinc (v := a3 + 1) (lv1 := [(0, .ref 8), (1, .ref 1), (2, .int a2), (3, .int (a3 + 1))]) (hs_tb tb_X3_agrees 26 rfl) 3 rfl rfl (by decide) rfl rfl (hr_goto (tgt := 2) (hs_tb tb_X3_agrees 27 rfl) rfl h5))) (fun c4 => have h6 := h3.2.2 c4; (hr_aload_n (hs_tb tb_X3_agrees 12 rfl) 1 rfl (hr_getR (hs_tb tb_X3_agrees 13 rfl) fl_X3_91 fx_1_1 (hr_aload_n (hs_tb tb_X3_agrees 14 rfl) 0 rfl (hr_getR (hs_tb tb_X3_agrees 15 rfl) fl_X3_33 fx_8_11 (hr_iload_n (hs_tb tb_X3_agrees 16 rfl) 3 rfl (hr_iald (hs_tb tb_X3_agrees 17 rfl) ax_16 h3.1 (hr_iald (hs_tb tb_X3_agrees 18 rfl) ax_2 h6.1 (hr_aload_n (hs_tb tb_X3_agrees 19 rfl) 0 rfl (hr_getR (hs_tb tb_X3_agrees 20 rfl) fl_X3_39 fx_8_13 (hr_iload_n (hs_tb tb_X3_agrees 21 rfl) 3 rfl (hr_iald (hs_tb tb_X3_agrees 22 rfl) ax_18 h3.1 (hr_icmp_eq (tgt := 42) (hs_tb tb_X3_agrees 23 rfl) rfl (fun c7 => have h8 := h6.2.1 c7; (hr_iinc (v := a3 + 1) (lv1 := [(0, .ref 8), (1, .ref 1), (2, .int a2), (3, .int (a3 + 1))]) (hs_tb tb_X3_agrees 26 rfl) 3 rfl rfl (by decide) rfl rfl (hr_goto (tgt := 2) (hs_tb tb_X3_agrees 27 rfl) rfl h8))) (fun c7 => have h9 := h6.2.2 c7; (hr_iconst (v := 0) (hs_tb tb_X3_agrees 24 rfl) rfl (hr_zret (b := false) (hs_tb tb_X3_agrees 25 rfl) rfl rfl ⟨_, rfl, h9⟩)))))))))))))))))))))))))))
set_option maxHeartbeats 4000000 in
set_option maxRecDepth 100000 in
theorem vc_X3_agrees {p1 : Int32} {σ : hs_St} {K : Bool → hs_St → Prop} (h : RnB m_X3_agrees 2 [(0, .ref 8), (1, .ref 1), (2, .int p1), (3, .int 0)] [] σ K) : OkB m_X3_agrees [.ref 8, .ref 1, .int p1] σ K := hs_ok_of rfl (Nat.le_of_ble_eq_true rfl) (show hs_Rn m_X3_agrees 0 [(0, .ref 8), (1, .ref 1), (2, .int p1)] [] σ _ from (hr_iconst (v := 0) (hs_tb tb_X3_agrees 0 rfl) rfl (hr_istore_n (lv1 := [(0, .ref 8), (1, .ref 1), (2, .int p1), (3, .int 0)]) (hs_tb tb_X3_agrees 1 rfl) (by decide) rfl rfl h)))
set_option maxHeartbeats 4000000 in
set_option maxRecDepth 100000 in
theorem vc_X3_settle_2 {a2 : Int32} {a3 : Int32} {σ : hs_St} {K : hs_St → Prop} (h : ((σ.1 8 0) ≤ a3 → (RnV m_X3_settle 62 [(0, .ref 8), (1, .ref 1), (2, .int a2), (3, .int 0)] [] σ K)) ∧ (¬ (σ.1 8 0) ≤ a3 → (vp_in a3 4 ∧ (OkI m_X3_left [.ref 8, .int a3] σ (fun r4 σ5 => (r4 ≤ (σ.1 3 (a3.toNatClampNeg)) → (∀ σ10 : hs_St, σ10 = hs_w σ5 12 (a3.toNatClampNeg) (σ5.1 2 (a3.toNatClampNeg)) → (RnV m_X3_settle 2 [(0, .ref 8), (1, .ref 1), (2, .int a2), (3, .int (a3 + 1))] [] σ10 K))) ∧ (¬ r4 ≤ (σ.1 3 (a3.toNatClampNeg)) → (OkI m_X3_steps [.ref 8, .int a3] σ5 (fun r12 σ13 => ∀ σ15 : hs_St, σ15 = hs_w σ13 13 (a3.toNatClampNeg) (r12 - (σ13.1 3 (a3.toNatClampNeg))) → (∀ σ17 : hs_St, σ17 = hs_w σ15 12 (a3.toNatClampNeg) (σ15.1 2 (a3.toNatClampNeg)) → (RnV m_X3_settle 2 [(0, .ref 8), (1, .ref 1), (2, .int a2), (3, .int (a3 + 1))] [] σ17 K)))))))))) : RnV m_X3_settle 2 [(0, .ref 8), (1, .ref 1), (2, .int a2), (3, .int a3)] [] σ K := (hr_iload_n (hs_tb tb_X3_settle 2 rfl) 3 rfl (hr_aload_n (hs_tb tb_X3_settle 3 rfl) 0 rfl (hr_getI (hs_tb tb_X3_settle 4 rfl) fl_X3_42 fx_8_0 (hr_icmp_ge (tgt := 60) (hs_tb tb_X3_settle 5 rfl) rfl (fun c1 => have h2 := h.1 c1; (hr_iconst (v := 0) (hs_tb tb_X3_settle 36 rfl) rfl (hr_istore_n (lv1 := [(0, .ref 8), (1, .ref 1), (2, .int a2), (3, .int 0)]) (hs_tb tb_X3_settle 37 rfl) (by decide) rfl rfl h2))) (fun c1 => have h3 := h.2 c1; (hr_aload_n (hs_tb tb_X3_settle 6 rfl) 1 rfl (hr_getR (hs_tb tb_X3_settle 7 rfl) fl_X3_94 fx_1_2 (hr_iload_n (hs_tb tb_X3_settle 8 rfl) 3 rfl (hr_iald (hs_tb tb_X3_settle 9 rfl) ax_3 h3.1 (hr_aload_n (hs_tb tb_X3_settle 10 rfl) 0 rfl (hr_iload_n (hs_tb tb_X3_settle 11 rfl) 3 rfl (hr_callV (y := m_X3_left) (As := [.int a3]) (st := [.int (σ.1 3 (a3.toNatClampNeg))]) (k := 8) (hs_tb tb_X3_settle 12 rfl) ml_X3_97 cm_X3_left cv_X3_left rfl ⟨Nat.le_of_ble_eq_true rfl, Nat.le_of_ble_eq_true rfl, Nat.le_of_ble_eq_true rfl⟩ rfl rfl (OkI.go h3.2 (fun r4 σ5 h6 => (show hs_Rn m_X3_settle 21 [(0, .ref 8), (1, .ref 1), (2, .int a2), (3, .int a3)] [.int r4, .int (σ.1 3 (a3.toNatClampNeg))] σ5 _ from (hr_icmp_ge (tgt := 42) (hs_tb tb_X3_settle 13 rfl) rfl (fun c7 => have h8 := h6.1 c7; (hr_aload_n (hs_tb tb_X3_settle 26 rfl) 0 rfl (hr_getR (hs_tb tb_X3_settle 27 rfl) fl_X3_21 fx_8_4 (hr_iload_n (hs_tb tb_X3_settle 28 rfl) 3 rfl (hr_aload_n (hs_tb tb_X3_settle 29 rfl) 1 rfl (hr_getR (hs_tb tb_X3_settle 30 rfl) fl_X3_91 fx_1_1 (hr_iload_n (hs_tb tb_X3_settle 31 rfl) 3 rfl (hr_iald (hs_tb tb_X3_settle 32 rfl) ax_2 h3.1 (hr_iast (hs_tb tb_X3_settle 33 rfl) ax_12 h3.1 (hr_nms (fun σ10 eσ10 => have h11 := h8 σ10 eσ10; (hr_iinc (v := a3 + 1) (lv1 := [(0, .ref 8), (1, .ref 1), (2, .int a2), (3, .int (a3 + 1))]) (hs_tb tb_X3_settle 34 rfl) 3 rfl rfl (by decide) rfl rfl (hr_goto (tgt := 2) (hs_tb tb_X3_settle 35 rfl) rfl h11))))))))))))) (fun c7 => have h9 := h6.2 c7; (hr_aload_n (hs_tb tb_X3_settle 14 rfl) 0 rfl (hr_getR (hs_tb tb_X3_settle 15 rfl) fl_X3_24 fx_8_5 (hr_iload_n (hs_tb tb_X3_settle 16 rfl) 3 rfl (hr_aload_n (hs_tb tb_X3_settle 17 rfl) 0 rfl (hr_iload_n (hs_tb tb_X3_settle 18 rfl) 3 rfl (hr_callV (y := m_X3_steps) (As := [.int a3]) (st := [.int a3, .ref 13]) (k := 8) (hs_tb tb_X3_settle 19 rfl) ml_X3_77 cm_X3_steps cv_X3_steps rfl ⟨Nat.le_of_ble_eq_true rfl, Nat.le_of_ble_eq_true rfl, Nat.le_of_ble_eq_true rfl⟩ rfl rfl (OkI.go h9 (fun r12 σ13 h14 => (show hs_Rn m_X3_settle 34 [(0, .ref 8), (1, .ref 1), (2, .int a2), (3, .int a3)] [.int r12, .int a3, .ref 13] σ13 _ from (hr_aload_n (hs_tb tb_X3_settle 20 rfl) 1 rfl (hr_getR (hs_tb tb_X3_settle 21 rfl) fl_X3_94 fx_1_2 (hr_iload_n (hs_tb tb_X3_settle 22 rfl) 3 rfl (hr_iald (hs_tb tb_X3_settle 23 rfl) ax_3 h3.1 (hr_isub (hs_tb tb_X3_settle 24 rfl) (hr_iast (hs_tb tb_X3_settle 25 rfl) ax_13 h3.1 (hr_nms (fun σ15 eσ15 => have h16 := h14 σ15 eσ15; (hr_aload_n (hs_tb tb_X3_settle 26 rfl) 0 rfl (hr_getR (hs_tb tb_X3_settle 27 rfl) fl_X3_21 fx_8_4 (hr_iload_n (hs_tb tb_X3_settle 28 rfl) 3 rfl (hr_aload_n (hs_tb tb_X3_settle 29 rfl) 1 rfl (hr_getR (hs_tb tb_X3_settle 30 rfl) fl_X3_91 fx_1_1 (hr_iload_n (hs_tb tb_X3_settle 31 rfl) 3 rfl (hr_iald (hs_tb tb_X3_settle 32 rfl) ax_2 h3.1 (hr_iast (hs_tb tb_X3_settle 33 rfl) ax_12 h3.1 (hr_nms (fun σ17 eσ17 => have h18 := h16 σ17 eσ17; (hr_iinc (v := a3 + 1) (lv1 := [(0, .ref 8), (1, .ref 1), (2, .int a2), (3, .int (a3 + 1))]) (hs_tb tb_X3_settle 34 rfl) 3 rfl rfl (by decide) rfl rfl (hr_goto (tgt := 2) (hs_tb tb_X3_settle 35 rfl) rfl h18))))))))))))))))))))))))))))))))))))))))))))))
set_option maxHeartbeats 4000000 in
set_option maxRecDepth 100000 in
theorem vc_X3_settle_62 {a2 : Int32} {a3 : Int32} {σ : hs_St} {K : hs_St → Prop} (h : ((σ.1 8 6) ≤ a3 → (∀ σ4 : hs_St, σ4 = hs_w σ 8 9 ((σ.1 8 9) + a2) → (K σ4))) ∧ (¬ (σ.1 8 6) ≤ a3 → (vp_in a3 3 ∧ (∀ σ6 : hs_St, σ6 = hs_w σ 14 (a3.toNatClampNeg) (σ.1 5 (a3.toNatClampNeg)) → (RnV m_X3_settle 62 [(0, .ref 8), (1, .ref 1), (2, .int a2), (3, .int (a3 + 1))] [] σ6 K))))) : RnV m_X3_settle 62 [(0, .ref 8), (1, .ref 1), (2, .int a2), (3, .int a3)] [] σ K := (hr_iload_n (hs_tb tb_X3_settle 38 rfl) 3 rfl (hr_aload_n (hs_tb tb_X3_settle 39 rfl) 0 rfl (hr_getI (hs_tb tb_X3_settle 40 rfl) fl_X3_46 fx_8_6 (hr_icmp_ge (tgt := 88) (hs_tb tb_X3_settle 41 rfl) rfl (fun c1 => have h2 := h.1 c1; (hr_aload_n (hs_tb tb_X3_settle 52 rfl) 0 rfl (hr_dup (hs_tb tb_X3_settle 53 rfl) rfl (hr_getI (hs_tb tb_X3_settle 54 rfl) fl_X3_49 fx_8_9 (hr_iload_n (hs_tb tb_X3_settle 55 rfl) 2 rfl (hr_iadd (hs_tb tb_X3_settle 56 rfl) (hr_put (hs_tb tb_X3_settle 57 rfl) fl_X3_49 fx_8_9 fw_3_9 (hr_nms (fun σ4 eσ4 => have h5 := h2 σ4 eσ4; (hr_vret (hs_tb tb_X3_settle 58 rfl) rfl ⟨rfl, h5⟩)))))))))) (fun c1 => have h3 := h.2 c1; (hr_aload_n (hs_tb tb_X3_settle 42 rfl) 0 rfl (hr_getR (hs_tb tb_X3_settle 43 rfl) fl_X3_27 fx_8_7 (hr_iload_n (hs_tb tb_X3_settle 44 rfl) 3 rfl (hr_aload_n (hs_tb tb_X3_settle 45 rfl) 1 rfl (hr_getR (hs_tb tb_X3_settle 46 rfl) fl_X3_99 fx_1_5 (hr_iload_n (hs_tb tb_X3_settle 47 rfl) 3 rfl (hr_iald (hs_tb tb_X3_settle 48 rfl) ax_5 h3.1 (hr_iast (hs_tb tb_X3_settle 49 rfl) ax_14 h3.1 (hr_nms (fun σ6 eσ6 => have h7 := h3.2 σ6 eσ6; (hr_iinc (v := a3 + 1) (lv1 := [(0, .ref 8), (1, .ref 1), (2, .int a2), (3, .int (a3 + 1))]) (hs_tb tb_X3_settle 50 rfl) 3 rfl rfl (by decide) rfl rfl (hr_goto (tgt := 62) (hs_tb tb_X3_settle 51 rfl) rfl h7)))))))))))))))))
set_option maxHeartbeats 4000000 in
set_option maxRecDepth 100000 in
theorem vc_X3_settle {p1 : Int32} {σ : hs_St} {K : hs_St → Prop} (h : RnV m_X3_settle 2 [(0, .ref 8), (1, .ref 1), (2, .int p1), (3, .int 0)] [] σ K) : OkV m_X3_settle [.ref 8, .ref 1, .int p1] σ K := hs_ok_of rfl (Nat.le_of_ble_eq_true rfl) (show hs_Rn m_X3_settle 0 [(0, .ref 8), (1, .ref 1), (2, .int p1)] [] σ _ from (hr_iconst (v := 0) (hs_tb tb_X3_settle 0 rfl) rfl (hr_istore_n (lv1 := [(0, .ref 8), (1, .ref 1), (2, .int p1), (3, .int 0)]) (hs_tb tb_X3_settle 1 rfl) (by decide) rfl rfl h)))
set_option maxHeartbeats 4000000 in
set_option maxRecDepth 100000 in
theorem vc_X4_begin_10 {a2 : Int32} {σ : hs_St} {K : hs_St → Prop} (h : ((σ.1 1 0) ≤ a2 → (∀ σ4 : hs_St, σ4 = hs_w σ 1 4 (σ.1 8 6) → (RnV m_X4_begin 75 [(0, .ref 1), (1, .ref 8), (2, .int 0)] [] σ4 K))) ∧ (¬ (σ.1 1 0) ≤ a2 → (vp_in a2 4 ∧ (∀ σ6 : hs_St, σ6 = hs_w σ 2 (a2.toNatClampNeg) (σ.1 12 (a2.toNatClampNeg)) → (OkV m_X4_reckon [.ref 1, .int a2, .int (σ6.1 9 (a2.toNatClampNeg)), .int (σ6.1 10 (a2.toNatClampNeg)), .int (σ6.1 11 (a2.toNatClampNeg)), .int (σ6.1 13 (a2.toNatClampNeg))] σ6 (fun σ9 => RnV m_X4_begin 10 [(0, .ref 1), (1, .ref 8), (2, .int (a2 + 1))] [] σ9 K)))))) : RnV m_X4_begin 10 [(0, .ref 1), (1, .ref 8), (2, .int a2)] [] σ K := (hr_iload_n (hs_tb tb_X4_begin 6 rfl) 2 rfl (hr_aload_n (hs_tb tb_X4_begin 7 rfl) 0 rfl (hr_getI (hs_tb tb_X4_begin 8 rfl) fl_X4_36 fx_1_0 (hr_icmp_ge (tgt := 65) (hs_tb tb_X4_begin 9 rfl) rfl (fun c1 => have h2 := h.1 c1; (hr_aload_n (hs_tb tb_X4_begin 39 rfl) 0 rfl (hr_aload_n (hs_tb tb_X4_begin 40 rfl) 1 rfl (hr_getI (hs_tb tb_X4_begin 41 rfl) fl_X4_54 fx_8_6 (hr_put (hs_tb tb_X4_begin 42 rfl) fl_X4_57 fx_1_4 fw_4_4 (hr_nms (fun σ4 eσ4 => have h5 := h2 σ4 eσ4; (hr_iconst (v := 0) (hs_tb tb_X4_begin 43 rfl) rfl (hr_istore_n (lv1 := [(0, .ref 1), (1, .ref 8), (2, .int 0)]) (hs_tb tb_X4_begin 44 rfl) (by decide) rfl rfl h5))))))))) (fun c1 => have h3 := h.2 c1; (hr_aload_n (hs_tb tb_X4_begin 10 rfl) 0 rfl (hr_getR (hs_tb tb_X4_begin 11 rfl) fl_X4_9 fx_1_1 (hr_iload_n (hs_tb tb_X4_begin 12 rfl) 2 rfl (hr_aload_n (hs_tb tb_X4_begin 13 rfl) 1 rfl (hr_getR (hs_tb tb_X4_begin 14 rfl) fl_X4_37 fx_8_4 (hr_iload_n (hs_tb tb_X4_begin 15 rfl) 2 rfl (hr_iald (hs_tb tb_X4_begin 16 rfl) ax_12 h3.1 (hr_iast (hs_tb tb_X4_begin 17 rfl) ax_2 h3.1 (hr_nms (fun σ6 eσ6 => have h7 := h3.2 σ6 eσ6; (hr_aload_n (hs_tb tb_X4_begin 18 rfl) 0 rfl (hr_iload_n (hs_tb tb_X4_begin 19 rfl) 2 rfl (hr_aload_n (hs_tb tb_X4_begin 20 rfl) 1 rfl (hr_getR (hs_tb tb_X4_begin 21 rfl) fl_X4_38 fx_8_1 (hr_iload_n (hs_tb tb_X4_begin 22 rfl) 2 rfl (hr_iald (hs_tb tb_X4_begin 23 rfl) ax_9 h3.1 (hr_aload_n (hs_tb tb_X4_begin 24 rfl) 1 rfl (hr_getR (hs_tb tb_X4_begin 25 rfl) fl_X4_41 fx_8_2 (hr_iload_n (hs_tb tb_X4_begin 26 rfl) 2 rfl (hr_iald (hs_tb tb_X4_begin 27 rfl) ax_10 h3.1 (hr_aload_n (hs_tb tb_X4_begin 28 rfl) 1 rfl (hr_getR (hs_tb tb_X4_begin 29 rfl) fl_X4_44 fx_8_3 (hr_iload_n (hs_tb tb_X4_begin 30 rfl) 2 rfl (hr_iald (hs_tb tb_X4_begin 31 rfl) ax_11 h3.1 (hr_aload_n (hs_tb tb_X4_begin 32 rfl) 1 rfl (hr_getR (hs_tb tb_X4_begin 33 rfl) fl_X4_47 fx_8_5 (hr_iload_n (hs_tb tb_X4_begin 34 rfl) 2 rfl (hr_iald (hs_tb tb_X4_begin 35 rfl) ax_13 h3.1 (hr_callV (y := m_X4_reckon) (As := [.int a2, .int (σ6.1 9 (a2.toNatClampNeg)), .int (σ6.1 10 (a2.toNatClampNeg)), .int (σ6.1 11 (a2.toNatClampNeg)), .int (σ6.1 13 (a2.toNatClampNeg))]) (st := []) (k := 1) (hs_tb tb_X4_begin 36 rfl) ml_X4_50 cm_X4_reckon cv_X4_reckon rfl ⟨Nat.le_of_ble_eq_true rfl, Nat.le_of_ble_eq_true rfl, Nat.le_of_ble_eq_true rfl⟩ rfl rfl (OkV.go h7 (fun σ9 h10 => (show hs_Rn m_X4_begin 59 [(0, .ref 1), (1, .ref 8), (2, .int a2)] [] σ9 _ from (hr_iinc (v := a2 + 1) (lv1 := [(0, .ref 1), (1, .ref 8), (2, .int (a2 + 1))]) (hs_tb tb_X4_begin 37 rfl) 2 rfl rfl (by decide) rfl rfl (hr_goto (tgt := 10) (hs_tb tb_X4_begin 38 rfl) rfl h10)))))))))))))))))))))))))))))))))))))))
set_option maxHeartbeats 4000000 in
set_option maxRecDepth 100000 in
theorem vc_X4_begin_75 {a2 : Int32} {σ : hs_St} {K : hs_St → Prop} (h : ((σ.1 1 4) ≤ a2 → (∀ σ4 : hs_St, σ4 = hs_w σ 1 7 0 → (RnV m_X4_begin 120 [(0, .ref 1), (1, .ref 8), (2, .int 0)] [] σ4 K))) ∧ (¬ (σ.1 1 4) ≤ a2 → (vp_in a2 3 ∧ (∀ σ6 : hs_St, σ6 = hs_w σ 5 (a2.toNatClampNeg) (σ.1 14 (a2.toNatClampNeg)) → (∀ σ8 : hs_St, σ8 = hs_w σ6 6 (a2.toNatClampNeg) (σ6.1 15 (a2.toNatClampNeg)) → (RnV m_X4_begin 75 [(0, .ref 1), (1, .ref 8), (2, .int (a2 + 1))] [] σ8 K)))))) : RnV m_X4_begin 75 [(0, .ref 1), (1, .ref 8), (2, .int a2)] [] σ K := (hr_iload_n (hs_tb tb_X4_begin 45 rfl) 2 rfl (hr_aload_n (hs_tb tb_X4_begin 46 rfl) 0 rfl (hr_getI (hs_tb tb_X4_begin 47 rfl) fl_X4_57 fx_1_4 (hr_icmp_ge (tgt := 113) (hs_tb tb_X4_begin 48 rfl) rfl (fun c1 => have h2 := h.1 c1; (hr_aload_n (hs_tb tb_X4_begin 67 rfl) 0 rfl (hr_iconst (v := 0) (hs_tb tb_X4_begin 68 rfl) rfl (hr_put (hs_tb tb_X4_begin 69 rfl) fl_X4_60 fx_1_7 fw_4_7 (hr_nms (fun σ4 eσ4 => have h5 := h2 σ4 eσ4; (hr_iconst (v := 0) (hs_tb tb_X4_begin 70 rfl) rfl (hr_istore_n (lv1 := [(0, .ref 1), (1, .ref 8), (2, .int 0)]) (hs_tb tb_X4_begin 71 rfl) (by decide) rfl rfl h5)))))))) (fun c1 => have h3 := h.2 c1; (hr_aload_n (hs_tb tb_X4_begin 49 rfl) 0 rfl (hr_getR (hs_tb tb_X4_begin 50 rfl) fl_X4_21 fx_1_5 (hr_iload_n (hs_tb tb_X4_begin 51 rfl) 2 rfl (hr_aload_n (hs_tb tb_X4_begin 52 rfl) 1 rfl (hr_getR (hs_tb tb_X4_begin 53 rfl) fl_X4_58 fx_8_7 (hr_iload_n (hs_tb tb_X4_begin 54 rfl) 2 rfl (hr_iald (hs_tb tb_X4_begin 55 rfl) ax_14 h3.1 (hr_iast (hs_tb tb_X4_begin 56 rfl) ax_5 h3.1 (hr_nms (fun σ6 eσ6 => have h7 := h3.2 σ6 eσ6; (hr_aload_n (hs_tb tb_X4_begin 57 rfl) 0 rfl (hr_getR (hs_tb tb_X4_begin 58 rfl) fl_X4_24 fx_1_6 (hr_iload_n (hs_tb tb_X4_begin 59 rfl) 2 rfl (hr_aload_n (hs_tb tb_X4_begin 60 rfl) 1 rfl (hr_getR (hs_tb tb_X4_begin 61 rfl) fl_X4_59 fx_8_8 (hr_iload_n (hs_tb tb_X4_begin 62 rfl) 2 rfl (hr_iald (hs_tb tb_X4_begin 63 rfl) ax_15 h3.1 (hr_iast (hs_tb tb_X4_begin 64 rfl) ax_6 h3.1 (hr_nms (fun σ8 eσ8 => have h9 := h7 σ8 eσ8; (hr_iinc (v := a2 + 1) (lv1 := [(0, .ref 1), (1, .ref 8), (2, .int (a2 + 1))]) (hs_tb tb_X4_begin 65 rfl) 2 rfl rfl (by decide) rfl rfl (hr_goto (tgt := 75) (hs_tb tb_X4_begin 66 rfl) rfl h9)))))))))))))))))))))))))))
set_option maxHeartbeats 4000000 in
set_option maxRecDepth 100000 in
theorem vc_X4_begin_120 {a2 : Int32} {σ : hs_St} {K : hs_St → Prop} (h : (6 ≤ a2 → (K σ)) ∧ (¬ 6 ≤ a2 → (vp_in a2 6 ∧ (∀ σ4 : hs_St, σ4 = hs_w σ 7 (a2.toNatClampNeg) 0 → (RnV m_X4_begin 120 [(0, .ref 1), (1, .ref 8), (2, .int (a2 + 1))] [] σ4 K))))) : RnV m_X4_begin 120 [(0, .ref 1), (1, .ref 8), (2, .int a2)] [] σ K := (hr_iload_n (hs_tb tb_X4_begin 72 rfl) 2 rfl (hr_bipush (v := 6) (hs_tb tb_X4_begin 73 rfl) rfl (hr_icmp_ge (tgt := 139) (hs_tb tb_X4_begin 74 rfl) rfl (fun c1 => have h2 := h.1 c1; (hr_vret (hs_tb tb_X4_begin 82 rfl) rfl ⟨rfl, h2⟩)) (fun c1 => have h3 := h.2 c1; (hr_aload_n (hs_tb tb_X4_begin 75 rfl) 0 rfl (hr_getR (hs_tb tb_X4_begin 76 rfl) fl_X4_27 fx_1_8 (hr_iload_n (hs_tb tb_X4_begin 77 rfl) 2 rfl (hr_iconst (v := 0) (hs_tb tb_X4_begin 78 rfl) rfl (hr_iast (hs_tb tb_X4_begin 79 rfl) ax_7 h3.1 (hr_nms (fun σ4 eσ4 => have h5 := h3.2 σ4 eσ4; (hr_iinc (v := a2 + 1) (lv1 := [(0, .ref 1), (1, .ref 8), (2, .int (a2 + 1))]) (hs_tb tb_X4_begin 80 rfl) 2 rfl rfl (by decide) rfl rfl (hr_goto (tgt := 120) (hs_tb tb_X4_begin 81 rfl) rfl h5)))))))))))))
set_option maxHeartbeats 4000000 in
set_option maxRecDepth 100000 in
theorem vc_X4_begin  {σ : hs_St} {K : hs_St → Prop} (h : ∀ σ1 : hs_St, σ1 = hs_w σ 1 0 (σ.1 8 0) → (RnV m_X4_begin 10 [(0, .ref 1), (1, .ref 8), (2, .int 0)] [] σ1 K)) : OkV m_X4_begin [.ref 1, .ref 8] σ K := hs_ok_of rfl (Nat.le_of_ble_eq_true rfl) (show hs_Rn m_X4_begin 0 [(0, .ref 1), (1, .ref 8)] [] σ _ from (hr_aload_n (hs_tb tb_X4_begin 0 rfl) 0 rfl (hr_aload_n (hs_tb tb_X4_begin 1 rfl) 1 rfl (hr_getI (hs_tb tb_X4_begin 2 rfl) fl_X4_30 fx_8_0 (hr_put (hs_tb tb_X4_begin 3 rfl) fl_X4_36 fx_1_0 fw_4_0 (hr_nms (fun σ1 eσ1 => have h2 := h σ1 eσ1; (hr_iconst (v := 0) (hs_tb tb_X4_begin 4 rfl) rfl (hr_istore_n (lv1 := [(0, .ref 1), (1, .ref 8), (2, .int 0)]) (hs_tb tb_X4_begin 5 rfl) (by decide) rfl rfl h2)))))))))
set_option maxHeartbeats 4000000 in
set_option maxRecDepth 100000 in
theorem vc_X4_reckon {p0 : Int32} {p1 : Int32} {p2 : Int32} {p3 : Int32} {p4 : Int32} {σ : hs_St} {K : hs_St → Prop} (h : OkI m_X5_answerOf [.int p1, .int p2, .int p3] σ (fun r1 σ2 => OkI m_X5_stepsOf [.int p1, .int r1] σ2 (fun r4 σ5 => vp_in p0 4 ∧ (∀ σ7 : hs_St, σ7 = hs_w σ5 3 (p0.toNatClampNeg) (hs_mx 0 (r4 - p4)) → (∀ σ9 : hs_St, σ9 = hs_w σ7 4 (p0.toNatClampNeg) (r1 - r1 / 6 * 6) → (K σ9)))))) : OkV m_X4_reckon [.ref 1, .int p0, .int p1, .int p2, .int p3, .int p4] σ K := hs_ok_of rfl (Nat.le_of_ble_eq_true rfl) (show hs_Rn m_X4_reckon 0 [(0, .ref 1), (1, .int p0), (2, .int p1), (3, .int p2), (4, .int p3), (5, .int p4)] [] σ _ from (hr_iload_n (hs_tb tb_X4_reckon 0 rfl) 2 rfl (hr_iload_n (hs_tb tb_X4_reckon 1 rfl) 3 rfl (hr_iload (hs_tb tb_X4_reckon 2 rfl) 4 rfl (hr_callN (y := m_X5_answerOf) (As := [.int p1, .int p2, .int p3]) (st := []) (hs_tb tb_X4_reckon 3 rfl) mn_X4_63 cm_X5_answerOf wt_X5_answerOf rfl ⟨Nat.le_of_ble_eq_true rfl, Nat.le_of_ble_eq_true rfl, Nat.le_of_ble_eq_true rfl⟩ (OkI.go h (fun r1 σ2 h3 => (show hs_Rn m_X4_reckon 7 [(0, .ref 1), (1, .int p0), (2, .int p1), (3, .int p2), (4, .int p3), (5, .int p4)] [.int r1] σ2 _ from (hr_istore (lv1 := [(0, .ref 1), (1, .int p0), (2, .int p1), (3, .int p2), (4, .int p3), (5, .int p4), (6, .int r1)]) (hs_tb tb_X4_reckon 4 rfl) (by decide) rfl rfl (hr_aload_n (hs_tb tb_X4_reckon 5 rfl) 0 rfl (hr_getR (hs_tb tb_X4_reckon 6 rfl) fl_X4_15 fx_1_2 (hr_iload_n (hs_tb tb_X4_reckon 7 rfl) 1 rfl (hr_iconst (v := 0) (hs_tb tb_X4_reckon 8 rfl) rfl (hr_iload_n (hs_tb tb_X4_reckon 9 rfl) 2 rfl (hr_iload (hs_tb tb_X4_reckon 10 rfl) 6 rfl (hr_callN (y := m_X5_stepsOf) (As := [.int p1, .int r1]) (st := [.int 0, .int p0, .ref 3]) (hs_tb tb_X4_reckon 11 rfl) mn_X4_67 cm_X5_stepsOf wt_X5_stepsOf rfl ⟨Nat.le_of_ble_eq_true rfl, Nat.le_of_ble_eq_true rfl, Nat.le_of_ble_eq_true rfl⟩ (OkI.go h3 (fun r4 σ5 h6 => (show hs_Rn m_X4_reckon 21 [(0, .ref 1), (1, .int p0), (2, .int p1), (3, .int p2), (4, .int p3), (5, .int p4), (6, .int r1)] [.int r4, .int 0, .int p0, .ref 3] σ5 _ from (hr_iload (hs_tb tb_X4_reckon 12 rfl) 5 rfl (hr_isub (hs_tb tb_X4_reckon 13 rfl) (hr_max (hs_tb tb_X4_reckon 14 rfl) ml_X4_71 w_st_max w_in_math w_cd_max (Nat.le_of_ble_eq_true rfl) (Nat.le_of_ble_eq_true rfl) (hr_iast (hs_tb tb_X4_reckon 15 rfl) ax_3 h6.1 (hr_nms (fun σ7 eσ7 => have h8 := h6.2 σ7 eσ7; (hr_aload_n (hs_tb tb_X4_reckon 16 rfl) 0 rfl (hr_getR (hs_tb tb_X4_reckon 17 rfl) fl_X4_18 fx_1_3 (hr_iload_n (hs_tb tb_X4_reckon 18 rfl) 1 rfl (hr_iload (hs_tb tb_X4_reckon 19 rfl) 6 rfl (hr_bipush (v := 6) (hs_tb tb_X4_reckon 20 rfl) rfl (hr_irem (hs_tb tb_X4_reckon 21 rfl) (by decide) (hr_iast (hs_tb tb_X4_reckon 22 rfl) ax_4 h6.1 (hr_nms (fun σ9 eσ9 => have h10 := h8 σ9 eσ9; (hr_vret (hs_tb tb_X4_reckon 23 rfl) rfl ⟨rfl, h10⟩)))))))))))))))))))))))))))))))))))
set_option maxHeartbeats 4000000 in
set_option maxRecDepth 100000 in
theorem vc_X4_go_2 {a1 : Int32} {a2 : Int32} {σ : hs_St} {K : hs_St → Prop} (h : (a1 ≤ a2 → (K σ)) ∧ (¬ a1 ≤ a2 → (OkV m_X4_goOneNight [.ref 1] σ (fun σ5 => RnV m_X4_go 2 [(0, .ref 1), (1, .int a1), (2, .int (a2 + 1))] [] σ5 K)))) : RnV m_X4_go 2 [(0, .ref 1), (1, .int a1), (2, .int a2)] [] σ K := (hr_iload_n (hs_tb tb_X4_go 2 rfl) 2 rfl (hr_iload_n (hs_tb tb_X4_go 3 rfl) 1 rfl (hr_icmp_ge (tgt := 17) (hs_tb tb_X4_go 4 rfl) rfl (fun c1 => have h2 := h.1 c1; (hr_vret (hs_tb tb_X4_go 9 rfl) rfl ⟨rfl, h2⟩)) (fun c1 => have h3 := h.2 c1; (hr_aload_n (hs_tb tb_X4_go 5 rfl) 0 rfl (hr_callV (y := m_X4_goOneNight) (As := []) (st := []) (k := 1) (hs_tb tb_X4_go 6 rfl) ml_X4_76 cm_X4_goOneNight cv_X4_goOneNight rfl ⟨Nat.le_of_ble_eq_true rfl, Nat.le_of_ble_eq_true rfl, Nat.le_of_ble_eq_true rfl⟩ rfl rfl (OkV.go h3 (fun σ5 h6 => (show hs_Rn m_X4_go 11 [(0, .ref 1), (1, .int a1), (2, .int a2)] [] σ5 _ from (hr_iinc (v := a2 + 1) (lv1 := [(0, .ref 1), (1, .int a1), (2, .int (a2 + 1))]) (hs_tb tb_X4_go 7 rfl) 2 rfl rfl (by decide) rfl rfl (hr_goto (tgt := 2) (hs_tb tb_X4_go 8 rfl) rfl h6)))))))))))
set_option maxHeartbeats 4000000 in
set_option maxRecDepth 100000 in
theorem vc_X4_go {p0 : Int32} {σ : hs_St} {K : hs_St → Prop} (h : RnV m_X4_go 2 [(0, .ref 1), (1, .int p0), (2, .int 0)] [] σ K) : OkV m_X4_go [.ref 1, .int p0] σ K := hs_ok_of rfl (Nat.le_of_ble_eq_true rfl) (show hs_Rn m_X4_go 0 [(0, .ref 1), (1, .int p0)] [] σ _ from (hr_iconst (v := 0) (hs_tb tb_X4_go 0 rfl) rfl (hr_istore_n (lv1 := [(0, .ref 1), (1, .int p0), (2, .int 0)]) (hs_tb tb_X4_go 1 rfl) (by decide) rfl rfl h)))
set_option maxHeartbeats 4000000 in
set_option maxRecDepth 100000 in
theorem vc_X4_goOneNight_2 {a1 : Int32} {σ : hs_St} {K : hs_St → Prop} (h : ((σ.1 1 4) ≤ a1 → (RnV m_X4_goOneNight 34 [(0, .ref 1), (1, .int 0)] [] σ K)) ∧ (¬ (σ.1 1 4) ≤ a1 → (vp_in a1 3 ∧ (OkV m_X4_work [.ref 1, .int (σ.1 5 (a1.toNatClampNeg)), .int (σ.1 6 (a1.toNatClampNeg))] σ (fun σ5 => RnV m_X4_goOneNight 2 [(0, .ref 1), (1, .int (a1 + 1))] [] σ5 K))))) : RnV m_X4_goOneNight 2 [(0, .ref 1), (1, .int a1)] [] σ K := (hr_iload_n (hs_tb tb_X4_goOneNight 2 rfl) 1 rfl (hr_aload_n (hs_tb tb_X4_goOneNight 3 rfl) 0 rfl (hr_getI (hs_tb tb_X4_goOneNight 4 rfl) fl_X4_57 fx_1_4 (hr_icmp_ge (tgt := 32) (hs_tb tb_X4_goOneNight 5 rfl) rfl (fun c1 => have h2 := h.1 c1; (hr_iconst (v := 0) (hs_tb tb_X4_goOneNight 18 rfl) rfl (hr_istore_n (lv1 := [(0, .ref 1), (1, .int 0)]) (hs_tb tb_X4_goOneNight 19 rfl) (by decide) rfl rfl h2))) (fun c1 => have h3 := h.2 c1; (hr_aload_n (hs_tb tb_X4_goOneNight 6 rfl) 0 rfl (hr_aload_n (hs_tb tb_X4_goOneNight 7 rfl) 0 rfl (hr_getR (hs_tb tb_X4_goOneNight 8 rfl) fl_X4_21 fx_1_5 (hr_iload_n (hs_tb tb_X4_goOneNight 9 rfl) 1 rfl (hr_iald (hs_tb tb_X4_goOneNight 10 rfl) ax_5 h3.1 (hr_aload_n (hs_tb tb_X4_goOneNight 11 rfl) 0 rfl (hr_getR (hs_tb tb_X4_goOneNight 12 rfl) fl_X4_24 fx_1_6 (hr_iload_n (hs_tb tb_X4_goOneNight 13 rfl) 1 rfl (hr_iald (hs_tb tb_X4_goOneNight 14 rfl) ax_6 h3.1 (hr_callV (y := m_X4_work) (As := [.int (σ.1 5 (a1.toNatClampNeg)), .int (σ.1 6 (a1.toNatClampNeg))]) (st := []) (k := 1) (hs_tb tb_X4_goOneNight 15 rfl) ml_X4_79 cm_X4_work cv_X4_work rfl ⟨Nat.le_of_ble_eq_true rfl, Nat.le_of_ble_eq_true rfl, Nat.le_of_ble_eq_true rfl⟩ rfl rfl (OkV.go h3.2 (fun σ5 h6 => (show hs_Rn m_X4_goOneNight 26 [(0, .ref 1), (1, .int a1)] [] σ5 _ from (hr_iinc (v := a1 + 1) (lv1 := [(0, .ref 1), (1, .int (a1 + 1))]) (hs_tb tb_X4_goOneNight 16 rfl) 1 rfl rfl (by decide) rfl rfl (hr_goto (tgt := 2) (hs_tb tb_X4_goOneNight 17 rfl) rfl h6))))))))))))))))))))
set_option maxHeartbeats 4000000 in
set_option maxRecDepth 100000 in
theorem vc_X4_goOneNight_34 {a1 : Int32} {σ : hs_St} {K : hs_St → Prop} (h : ((σ.1 1 0) ≤ a1 → (K σ)) ∧ (¬ (σ.1 1 0) ≤ a1 → (vp_in a1 4 ∧ (((σ.1 3 (a1.toNatClampNeg)) ≤ 0 → (RnV m_X4_goOneNight 34 [(0, .ref 1), (1, .int (a1 + 1))] [] σ K)) ∧ (¬ (σ.1 3 (a1.toNatClampNeg)) ≤ 0 → (∀ σ7 : hs_St, σ7 = hs_w σ 1 7 ((σ.1 1 7) + (σ.1 3 (a1.toNatClampNeg))) → (vp_in (σ7.1 2 (a1.toNatClampNeg)) 6 ∧ (∀ σ9 : hs_St, σ9 = hs_w σ7 7 ((σ7.1 2 (a1.toNatClampNeg)).toNatClampNeg) ((σ7.1 7 ((σ7.1 2 (a1.toNatClampNeg)).toNatClampNeg)) + (σ7.1 3 (a1.toNatClampNeg))) → (∀ σ11 : hs_St, σ11 = hs_w σ9 2 (a1.toNatClampNeg) (((σ9.1 2 (a1.toNatClampNeg)) + (σ9.1 4 (a1.toNatClampNeg))) - ((σ9.1 2 (a1.toNatClampNeg)) + (σ9.1 4 (a1.toNatClampNeg))) / 6 * 6) → (RnV m_X4_goOneNight 34 [(0, .ref 1), (1, .int (a1 + 1))] [] σ11 K)))))))))) : RnV m_X4_goOneNight 34 [(0, .ref 1), (1, .int a1)] [] σ K := (hr_iload_n (hs_tb tb_X4_goOneNight 20 rfl) 1 rfl (hr_aload_n (hs_tb tb_X4_goOneNight 21 rfl) 0 rfl (hr_getI (hs_tb tb_X4_goOneNight 22 rfl) fl_X4_36 fx_1_0 (hr_icmp_ge (tgt := 114) (hs_tb tb_X4_goOneNight 23 rfl) rfl (fun c1 => have h2 := h.1 c1; (hr_vret (hs_tb tb_X4_goOneNight 69 rfl) rfl ⟨rfl, h2⟩)) (fun c1 => have h3 := h.2 c1; (hr_aload_n (hs_tb tb_X4_goOneNight 24 rfl) 0 rfl (hr_getR (hs_tb tb_X4_goOneNight 25 rfl) fl_X4_15 fx_1_2 (hr_iload_n (hs_tb tb_X4_goOneNight 26 rfl) 1 rfl (hr_iald (hs_tb tb_X4_goOneNight 27 rfl) ax_3 h3.1 (hr_if_le (tgt := 108) (hs_tb tb_X4_goOneNight 28 rfl) rfl (fun c4 => have h5 := h3.2.1 c4; (hr_iinc (v := a1 + 1) (lv1 := [(0, .ref 1), (1, .int (a1 + 1))]) (hs_tb tb_X4_goOneNight 67 rfl) 1 rfl rfl (by decide) rfl rfl (hr_goto (tgt := 34) (hs_tb tb_X4_goOneNight 68 rfl) rfl h5))) (fun c4 => have h6 := h3.2.2 c4; (hr_aload_n (hs_tb tb_X4_goOneNight 29 rfl) 0 rfl (hr_dup (hs_tb tb_X4_goOneNight 30 rfl) rfl (hr_getI (hs_tb tb_X4_goOneNight 31 rfl) fl_X4_60 fx_1_7 (hr_aload_n (hs_tb tb_X4_goOneNight 32 rfl) 0 rfl (hr_getR (hs_tb tb_X4_goOneNight 33 rfl) fl_X4_15 fx_1_2 (hr_iload_n (hs_tb tb_X4_goOneNight 34 rfl) 1 rfl (hr_iald (hs_tb tb_X4_goOneNight 35 rfl) ax_3 h3.1 (hr_iadd (hs_tb tb_X4_goOneNight 36 rfl) (hr_put (hs_tb tb_X4_goOneNight 37 rfl) fl_X4_60 fx_1_7 fw_4_7 (hr_nms (fun σ7 eσ7 => have h8 := h6 σ7 eσ7; (hr_aload_n (hs_tb tb_X4_goOneNight 38 rfl) 0 rfl (hr_getR (hs_tb tb_X4_goOneNight 39 rfl) fl_X4_27 fx_1_8 (hr_aload_n (hs_tb tb_X4_goOneNight 40 rfl) 0 rfl (hr_getR (hs_tb tb_X4_goOneNight 41 rfl) fl_X4_9 fx_1_1 (hr_iload_n (hs_tb tb_X4_goOneNight 42 rfl) 1 rfl (hr_iald (hs_tb tb_X4_goOneNight 43 rfl) ax_2 h3.1 (hr_dup2 (hs_tb tb_X4_goOneNight 44 rfl) rfl rfl (hr_iald (hs_tb tb_X4_goOneNight 45 rfl) ax_7 h8.1 (hr_aload_n (hs_tb tb_X4_goOneNight 46 rfl) 0 rfl (hr_getR (hs_tb tb_X4_goOneNight 47 rfl) fl_X4_15 fx_1_2 (hr_iload_n (hs_tb tb_X4_goOneNight 48 rfl) 1 rfl (hr_iald (hs_tb tb_X4_goOneNight 49 rfl) ax_3 h3.1 (hr_iadd (hs_tb tb_X4_goOneNight 50 rfl) (hr_iast (hs_tb tb_X4_goOneNight 51 rfl) ax_7 h8.1 (hr_nms (fun σ9 eσ9 => have h10 := h8.2 σ9 eσ9; (hr_aload_n (hs_tb tb_X4_goOneNight 52 rfl) 0 rfl (hr_getR (hs_tb tb_X4_goOneNight 53 rfl) fl_X4_9 fx_1_1 (hr_iload_n (hs_tb tb_X4_goOneNight 54 rfl) 1 rfl (hr_aload_n (hs_tb tb_X4_goOneNight 55 rfl) 0 rfl (hr_getR (hs_tb tb_X4_goOneNight 56 rfl) fl_X4_9 fx_1_1 (hr_iload_n (hs_tb tb_X4_goOneNight 57 rfl) 1 rfl (hr_iald (hs_tb tb_X4_goOneNight 58 rfl) ax_2 h3.1 (hr_aload_n (hs_tb tb_X4_goOneNight 59 rfl) 0 rfl (hr_getR (hs_tb tb_X4_goOneNight 60 rfl) fl_X4_18 fx_1_3 (hr_iload_n (hs_tb tb_X4_goOneNight 61 rfl) 1 rfl (hr_iald (hs_tb tb_X4_goOneNight 62 rfl) ax_4 h3.1 (hr_iadd (hs_tb tb_X4_goOneNight 63 rfl) (hr_bipush (v := 6) (hs_tb tb_X4_goOneNight 64 rfl) rfl (hr_irem (hs_tb tb_X4_goOneNight 65 rfl) (by decide) (hr_iast (hs_tb tb_X4_goOneNight 66 rfl) ax_2 h3.1 (hr_nms (fun σ11 eσ11 => have h12 := h10 σ11 eσ11; (hr_iinc (v := a1 + 1) (lv1 := [(0, .ref 1), (1, .int (a1 + 1))]) (hs_tb tb_X4_goOneNight 67 rfl) 1 rfl rfl (by decide) rfl rfl (hr_goto (tgt := 34) (hs_tb tb_X4_goOneNight 68 rfl) rfl h12)))))))))))))))))))))))))))))))))))))))))))))))))))))))))
set_option maxHeartbeats 4000000 in
set_option maxRecDepth 100000 in
theorem vc_X4_goOneNight  {σ : hs_St} {K : hs_St → Prop} (h : RnV m_X4_goOneNight 2 [(0, .ref 1), (1, .int 0)] [] σ K) : OkV m_X4_goOneNight [.ref 1] σ K := hs_ok_of rfl (Nat.le_of_ble_eq_true rfl) (show hs_Rn m_X4_goOneNight 0 [(0, .ref 1)] [] σ _ from (hr_iconst (v := 0) (hs_tb tb_X4_goOneNight 0 rfl) rfl (hr_istore_n (lv1 := [(0, .ref 1), (1, .int 0)]) (hs_tb tb_X4_goOneNight 1 rfl) (by decide) rfl rfl h)))
set_option maxHeartbeats 4000000 in
set_option maxRecDepth 100000 in
theorem vc_X4_work_2 {a1 : Int32} {a2 : Int32} {a3 : Int32} {σ : hs_St} {K : hs_St → Prop} (h : ((σ.1 1 0) ≤ a3 → (K σ)) ∧ (¬ (σ.1 1 0) ≤ a3 → (vp_in a3 4 ∧ (((σ.1 3 (a3.toNatClampNeg)) ≤ 0 → (RnV m_X4_work 2 [(0, .ref 1), (1, .int a1), (2, .int a2), (3, .int (a3 + 1))] [] σ K)) ∧ (¬ (σ.1 3 (a3.toNatClampNeg)) ≤ 0 → ((¬ (σ.1 2 (a3.toNatClampNeg)) = a1 → (RnV m_X4_work 2 [(0, .ref 1), (1, .int a1), (2, .int a2), (3, .int (a3 + 1))] [] σ K)) ∧ ((σ.1 2 (a3.toNatClampNeg)) = a1 → (∀ σ10 : hs_St, σ10 = hs_w σ 3 (a3.toNatClampNeg) (hs_mx 0 ((σ.1 3 (a3.toNatClampNeg)) - a2)) → (K σ10))))))))) : RnV m_X4_work 2 [(0, .ref 1), (1, .int a1), (2, .int a2), (3, .int a3)] [] σ K := (hr_iload_n (hs_tb tb_X4_work 2 rfl) 3 rfl (hr_aload_n (hs_tb tb_X4_work 3 rfl) 0 rfl (hr_getI (hs_tb tb_X4_work 4 rfl) fl_X4_36 fx_1_0 (hr_icmp_ge (tgt := 54) (hs_tb tb_X4_work 5 rfl) rfl (fun c1 => have h2 := h.1 c1; (hr_vret (hs_tb tb_X4_work 32 rfl) rfl ⟨rfl, h2⟩)) (fun c1 => have h3 := h.2 c1; (hr_aload_n (hs_tb tb_X4_work 6 rfl) 0 rfl (hr_getR (hs_tb tb_X4_work 7 rfl) fl_X4_15 fx_1_2 (hr_iload_n (hs_tb tb_X4_work 8 rfl) 3 rfl (hr_iald (hs_tb tb_X4_work 9 rfl) ax_3 h3.1 (hr_if_le (tgt := 48) (hs_tb tb_X4_work 10 rfl) rfl (fun c4 => have h5 := h3.2.1 c4; (hr_iinc (v := a3 + 1) (lv1 := [(0, .ref 1), (1, .int a1), (2, .int a2), (3, .int (a3 + 1))]) (hs_tb tb_X4_work 30 rfl) 3 rfl rfl (by decide) rfl rfl (hr_goto (tgt := 2) (hs_tb tb_X4_work 31 rfl) rfl h5))) (fun c4 => have h6 := h3.2.2 c4; (hr_aload_n (hs_tb tb_X4_work 11 rfl) 0 rfl (hr_getR (hs_tb tb_X4_work 12 rfl) fl_X4_9 fx_1_1 (hr_iload_n (hs_tb tb_X4_work 13 rfl) 3 rfl (hr_iald (hs_tb tb_X4_work 14 rfl) ax_2 h3.1 (hr_iload_n (hs_tb tb_X4_work 15 rfl) 1 rfl (hr_icmp_ne (tgt := 48) (hs_tb tb_X4_work 16 rfl) rfl (fun c7 => have h8 := h6.1 c7; (hr_iinc (v := a3 + 1) (lv1 := [(0, .ref 1), (1, .int a1), (2, .int a2), (3, .int (a3 + 1))]) (hs_tb tb_X4_work 30 rfl) 3 rfl rfl (by decide) rfl rfl (hr_goto (tgt := 2) (hs_tb tb_X4_work 31 rfl) rfl h8))) (fun c7 => have h9 := h6.2 c7; (hr_aload_n (hs_tb tb_X4_work 17 rfl) 0 rfl (hr_getR (hs_tb tb_X4_work 18 rfl) fl_X4_15 fx_1_2 (hr_iload_n (hs_tb tb_X4_work 19 rfl) 3 rfl (hr_iconst (v := 0) (hs_tb tb_X4_work 20 rfl) rfl (hr_aload_n (hs_tb tb_X4_work 21 rfl) 0 rfl (hr_getR (hs_tb tb_X4_work 22 rfl) fl_X4_15 fx_1_2 (hr_iload_n (hs_tb tb_X4_work 23 rfl) 3 rfl (hr_iald (hs_tb tb_X4_work 24 rfl) ax_3 h3.1 (hr_iload_n (hs_tb tb_X4_work 25 rfl) 2 rfl (hr_isub (hs_tb tb_X4_work 26 rfl) (hr_max (hs_tb tb_X4_work 27 rfl) ml_X4_71 w_st_max w_in_math w_cd_max (Nat.le_of_ble_eq_true rfl) (Nat.le_of_ble_eq_true rfl) (hr_iast (hs_tb tb_X4_work 28 rfl) ax_3 h3.1 (hr_nms (fun σ10 eσ10 => have h11 := h9 σ10 eσ10; (hr_vret (hs_tb tb_X4_work 29 rfl) rfl ⟨rfl, h11⟩)))))))))))))))))))))))))))))))))
set_option maxHeartbeats 4000000 in
set_option maxRecDepth 100000 in
theorem vc_X4_work {p0 : Int32} {p1 : Int32} {σ : hs_St} {K : hs_St → Prop} (h : RnV m_X4_work 2 [(0, .ref 1), (1, .int p0), (2, .int p1), (3, .int 0)] [] σ K) : OkV m_X4_work [.ref 1, .int p0, .int p1] σ K := hs_ok_of rfl (Nat.le_of_ble_eq_true rfl) (show hs_Rn m_X4_work 0 [(0, .ref 1), (1, .int p0), (2, .int p1)] [] σ _ from (hr_iconst (v := 0) (hs_tb tb_X4_work 0 rfl) rfl (hr_istore_n (lv1 := [(0, .ref 1), (1, .int p0), (2, .int p1), (3, .int 0)]) (hs_tb tb_X4_work 1 rfl) (by decide) rfl rfl h)))
set_option maxHeartbeats 4000000 in
set_option maxRecDepth 100000 in
theorem vc_X4_tillRest_2 {a1 : Int32} {a2 : Int32} {a3 : Int32} {σ : hs_St} {K : Int32 → hs_St → Prop} (h : (a2 < a3 → (K ((-4)) σ)) ∧ (¬ a2 < a3 → (OkI m_X4_resting [.ref 1] σ (fun r4 σ5 => (¬ (r4 &&& a1) = a1 → (OkV m_X4_goOneNight [.ref 1] σ5 (fun σ11 => RnI m_X4_tillRest 2 [(0, .ref 1), (1, .int a1), (2, .int a2), (3, .int (a3 + 1))] [] σ11 K))) ∧ ((r4 &&& a1) = a1 → (K a3 σ5)))))) : RnI m_X4_tillRest 2 [(0, .ref 1), (1, .int a1), (2, .int a2), (3, .int a3)] [] σ K := (hr_iload_n (hs_tb tb_X4_tillRest 2 rfl) 3 rfl (hr_iload_n (hs_tb tb_X4_tillRest 3 rfl) 2 rfl (hr_icmp_gt (tgt := 29) (hs_tb tb_X4_tillRest 4 rfl) rfl (fun c1 => have h2 := h.1 c1; (hr_bipush (v := (-4)) (hs_tb tb_X4_tillRest 17 rfl) rfl (hr_iret (hs_tb tb_X4_tillRest 18 rfl) rfl ⟨_, rfl, h2⟩))) (fun c1 => have h3 := h.2 c1; (hr_aload_n (hs_tb tb_X4_tillRest 5 rfl) 0 rfl (hr_callV (y := m_X4_resting) (As := []) (st := []) (k := 1) (hs_tb tb_X4_tillRest 6 rfl) ml_X4_83 cm_X4_resting cv_X4_resting rfl ⟨Nat.le_of_ble_eq_true rfl, Nat.le_of_ble_eq_true rfl, Nat.le_of_ble_eq_true rfl⟩ rfl rfl (OkI.go h3 (fun r4 σ5 h6 => (show hs_Rn m_X4_tillRest 11 [(0, .ref 1), (1, .int a1), (2, .int a2), (3, .int a3)] [.int r4] σ5 _ from (hr_iload_n (hs_tb tb_X4_tillRest 7 rfl) 1 rfl (hr_iand (hs_tb tb_X4_tillRest 8 rfl) (hr_iload_n (hs_tb tb_X4_tillRest 9 rfl) 1 rfl (hr_icmp_ne (tgt := 19) (hs_tb tb_X4_tillRest 10 rfl) rfl (fun c7 => have h8 := h6.1 c7; (hr_aload_n (hs_tb tb_X4_tillRest 13 rfl) 0 rfl (hr_callV (y := m_X4_goOneNight) (As := []) (st := []) (k := 1) (hs_tb tb_X4_tillRest 14 rfl) ml_X4_76 cm_X4_goOneNight cv_X4_goOneNight rfl ⟨Nat.le_of_ble_eq_true rfl, Nat.le_of_ble_eq_true rfl, Nat.le_of_ble_eq_true rfl⟩ rfl rfl (OkV.go h8 (fun σ11 h12 => (show hs_Rn m_X4_tillRest 23 [(0, .ref 1), (1, .int a1), (2, .int a2), (3, .int a3)] [] σ11 _ from (hr_iinc (v := a3 + 1) (lv1 := [(0, .ref 1), (1, .int a1), (2, .int a2), (3, .int (a3 + 1))]) (hs_tb tb_X4_tillRest 15 rfl) 3 rfl rfl (by decide) rfl rfl (hr_goto (tgt := 2) (hs_tb tb_X4_tillRest 16 rfl) rfl h12)))))))) (fun c7 => have h9 := h6.2 c7; (hr_iload_n (hs_tb tb_X4_tillRest 11 rfl) 3 rfl (hr_iret (hs_tb tb_X4_tillRest 12 rfl) rfl ⟨_, rfl, h9⟩))))))))))))))))
set_option maxHeartbeats 4000000 in
set_option maxRecDepth 100000 in
theorem vc_X4_tillRest {p0 : Int32} {p1 : Int32} {σ : hs_St} {K : Int32 → hs_St → Prop} (h : RnI m_X4_tillRest 2 [(0, .ref 1), (1, .int p0), (2, .int p1), (3, .int 0)] [] σ K) : OkI m_X4_tillRest [.ref 1, .int p0, .int p1] σ K := hs_ok_of rfl (Nat.le_of_ble_eq_true rfl) (show hs_Rn m_X4_tillRest 0 [(0, .ref 1), (1, .int p0), (2, .int p1)] [] σ _ from (hr_iconst (v := 0) (hs_tb tb_X4_tillRest 0 rfl) rfl (hr_istore_n (lv1 := [(0, .ref 1), (1, .int p0), (2, .int p1), (3, .int 0)]) (hs_tb tb_X4_tillRest 1 rfl) (by decide) rfl rfl h)))
set_option maxHeartbeats 4000000 in
set_option maxRecDepth 100000 in
theorem vc_X4_resting_4 {a1 : Int32} {a2 : Int32} {σ : hs_St} {K : Int32 → hs_St → Prop} (h : ((σ.1 1 0) ≤ a2 → (K a1 σ)) ∧ (¬ (σ.1 1 0) ≤ a2 → (vp_in a2 4 ∧ ((¬ (σ.1 3 (a2.toNatClampNeg)) = 0 → (RnI m_X4_resting 4 [(0, .ref 1), (1, .int a1), (2, .int (a2 + 1))] [] σ K)) ∧ ((σ.1 3 (a2.toNatClampNeg)) = 0 → (∀ x7 : Int32, x7 = a1 ||| ((1 : Int32) <<< (a2 &&& 31)) → (RnI m_X4_resting 4 [(0, .ref 1), (1, .int x7), (2, .int (a2 + 1))] [] σ K))))))) : RnI m_X4_resting 4 [(0, .ref 1), (1, .int a1), (2, .int a2)] [] σ K := (hr_iload_n (hs_tb tb_X4_resting 4 rfl) 2 rfl (hr_aload_n (hs_tb tb_X4_resting 5 rfl) 0 rfl (hr_getI (hs_tb tb_X4_resting 6 rfl) fl_X4_36 fx_1_0 (hr_icmp_ge (tgt := 33) (hs_tb tb_X4_resting 7 rfl) rfl (fun c1 => have h2 := h.1 c1; (hr_iload_n (hs_tb tb_X4_resting 21 rfl) 1 rfl (hr_iret (hs_tb tb_X4_resting 22 rfl) rfl ⟨_, rfl, h2⟩))) (fun c1 => have h3 := h.2 c1; (hr_aload_n (hs_tb tb_X4_resting 8 rfl) 0 rfl (hr_getR (hs_tb tb_X4_resting 9 rfl) fl_X4_15 fx_1_2 (hr_iload_n (hs_tb tb_X4_resting 10 rfl) 2 rfl (hr_iald (hs_tb tb_X4_resting 11 rfl) ax_3 h3.1 (hr_if_ne (tgt := 27) (hs_tb tb_X4_resting 12 rfl) rfl (fun c4 => have h5 := h3.2.1 c4; (hr_iinc (v := a2 + 1) (lv1 := [(0, .ref 1), (1, .int a1), (2, .int (a2 + 1))]) (hs_tb tb_X4_resting 19 rfl) 2 rfl rfl (by decide) rfl rfl (hr_goto (tgt := 4) (hs_tb tb_X4_resting 20 rfl) rfl h5))) (fun c4 => have h6 := h3.2.2 c4; (hr_iload_n (hs_tb tb_X4_resting 13 rfl) 1 rfl (hr_iconst (v := 1) (hs_tb tb_X4_resting 14 rfl) rfl (hr_iload_n (hs_tb tb_X4_resting 15 rfl) 2 rfl (hr_ishl (hs_tb tb_X4_resting 16 rfl) (hr_ior (hs_tb tb_X4_resting 17 rfl) (hr_nmi (fun x7 ex7 => have h8 := h6 x7 ex7; (hr_istore_n (lv1 := [(0, .ref 1), (1, .int x7), (2, .int a2)]) (hs_tb tb_X4_resting 18 rfl) (by decide) rfl rfl (hr_iinc (v := a2 + 1) (lv1 := [(0, .ref 1), (1, .int x7), (2, .int (a2 + 1))]) (hs_tb tb_X4_resting 19 rfl) 2 rfl rfl (by decide) rfl rfl (hr_goto (tgt := 4) (hs_tb tb_X4_resting 20 rfl) rfl h8)))))))))))))))))))))
set_option maxHeartbeats 4000000 in
set_option maxRecDepth 100000 in
theorem vc_X4_resting  {σ : hs_St} {K : Int32 → hs_St → Prop} (h : RnI m_X4_resting 4 [(0, .ref 1), (1, .int 0), (2, .int 0)] [] σ K) : OkI m_X4_resting [.ref 1] σ K := hs_ok_of rfl (Nat.le_of_ble_eq_true rfl) (show hs_Rn m_X4_resting 0 [(0, .ref 1)] [] σ _ from (hr_iconst (v := 0) (hs_tb tb_X4_resting 0 rfl) rfl (hr_istore_n (lv1 := [(0, .ref 1), (1, .int 0)]) (hs_tb tb_X4_resting 1 rfl) (by decide) rfl rfl (hr_iconst (v := 0) (hs_tb tb_X4_resting 2 rfl) rfl (hr_istore_n (lv1 := [(0, .ref 1), (1, .int 0), (2, .int 0)]) (hs_tb tb_X4_resting 3 rfl) (by decide) rfl rfl h)))))
set_option maxHeartbeats 4000000 in
set_option maxRecDepth 100000 in
theorem vc_X4_leftOfAll_4 {a1 : Int32} {a2 : Int32} {σ : hs_St} {K : Int32 → hs_St → Prop} (h : ((σ.1 1 0) ≤ a2 → (K a1 σ)) ∧ (¬ (σ.1 1 0) ≤ a2 → (vp_in a2 4 ∧ (∀ x4 : Int32, x4 = a1 + (σ.1 3 (a2.toNatClampNeg)) → (RnI m_X4_leftOfAll 4 [(0, .ref 1), (1, .int x4), (2, .int (a2 + 1))] [] σ K))))) : RnI m_X4_leftOfAll 4 [(0, .ref 1), (1, .int a1), (2, .int a2)] [] σ K := (hr_iload_n (hs_tb tb_X4_leftOfAll 4 rfl) 2 rfl (hr_aload_n (hs_tb tb_X4_leftOfAll 5 rfl) 0 rfl (hr_getI (hs_tb tb_X4_leftOfAll 6 rfl) fl_X4_36 fx_1_0 (hr_icmp_ge (tgt := 27) (hs_tb tb_X4_leftOfAll 7 rfl) rfl (fun c1 => have h2 := h.1 c1; (hr_iload_n (hs_tb tb_X4_leftOfAll 17 rfl) 1 rfl (hr_iret (hs_tb tb_X4_leftOfAll 18 rfl) rfl ⟨_, rfl, h2⟩))) (fun c1 => have h3 := h.2 c1; (hr_iload_n (hs_tb tb_X4_leftOfAll 8 rfl) 1 rfl (hr_aload_n (hs_tb tb_X4_leftOfAll 9 rfl) 0 rfl (hr_getR (hs_tb tb_X4_leftOfAll 10 rfl) fl_X4_15 fx_1_2 (hr_iload_n (hs_tb tb_X4_leftOfAll 11 rfl) 2 rfl (hr_iald (hs_tb tb_X4_leftOfAll 12 rfl) ax_3 h3.1 (hr_iadd (hs_tb tb_X4_leftOfAll 13 rfl) (hr_nmi (fun x4 ex4 => have h5 := h3.2 x4 ex4; (hr_istore_n (lv1 := [(0, .ref 1), (1, .int x4), (2, .int a2)]) (hs_tb tb_X4_leftOfAll 14 rfl) (by decide) rfl rfl (hr_iinc (v := a2 + 1) (lv1 := [(0, .ref 1), (1, .int x4), (2, .int (a2 + 1))]) (hs_tb tb_X4_leftOfAll 15 rfl) 2 rfl rfl (by decide) rfl rfl (hr_goto (tgt := 4) (hs_tb tb_X4_leftOfAll 16 rfl) rfl h5))))))))))))))))
set_option maxHeartbeats 4000000 in
set_option maxRecDepth 100000 in
theorem vc_X4_leftOfAll  {σ : hs_St} {K : Int32 → hs_St → Prop} (h : RnI m_X4_leftOfAll 4 [(0, .ref 1), (1, .int 0), (2, .int 0)] [] σ K) : OkI m_X4_leftOfAll [.ref 1] σ K := hs_ok_of rfl (Nat.le_of_ble_eq_true rfl) (show hs_Rn m_X4_leftOfAll 0 [(0, .ref 1)] [] σ _ from (hr_iconst (v := 0) (hs_tb tb_X4_leftOfAll 0 rfl) rfl (hr_istore_n (lv1 := [(0, .ref 1), (1, .int 0)]) (hs_tb tb_X4_leftOfAll 1 rfl) (by decide) rfl rfl (hr_iconst (v := 0) (hs_tb tb_X4_leftOfAll 2 rfl) rfl (hr_istore_n (lv1 := [(0, .ref 1), (1, .int 0), (2, .int 0)]) (hs_tb tb_X4_leftOfAll 3 rfl) (by decide) rfl rfl h)))))
end
