section
-- ===== PART A: goes FIRST, ahead of the names: the tables' words, and 'selects' of the private methods out of them =====
/-- a private method of a class that the tables say can be made, by its rows of tables_1 -/
def lw_okq (q : MethodName × Nat) : Prop := (q.1.cls ≠ "java/lang/invoke/MethodHandle" ∧ q.1.cls ≠ "java/lang/invoke/VarHandle") ∧ Cond.instantiable q.1.cls q.2 ∈ tables_1 ∧ Cond.privateMethod q.1 ∈ tables_1 ∧ Cond.instanceMethod q.1 ∈ tables_1
theorem lw_p0 : lw_okq (⟨"HauntSums", "harmOf", "(I)I"⟩, 10) := ⟨⟨by decide +kernel, by decide +kernel⟩, List.mem_of_getElem? (i := 15) (by decide +kernel), List.mem_of_getElem? (i := 506) (by decide +kernel), List.mem_of_getElem? (i := 507) (by decide +kernel)⟩
theorem lw_p1 : lw_okq (⟨"HauntSums", "walkFromNow", "(I)V"⟩, 10) := ⟨⟨by decide +kernel, by decide +kernel⟩, List.mem_of_getElem? (i := 15) (by decide +kernel), List.mem_of_getElem? (i := 510) (by decide +kernel), List.mem_of_getElem? (i := 511) (by decide +kernel)⟩
theorem lw_p2 : lw_okq (⟨"HauntSums", "harmByPlan", "(II)I"⟩, 10) := ⟨⟨by decide +kernel, by decide +kernel⟩, List.mem_of_getElem? (i := 15) (by decide +kernel), List.mem_of_getElem? (i := 564) (by decide +kernel), List.mem_of_getElem? (i := 565) (by decide +kernel)⟩
theorem lw_p3 : lw_okq (⟨"HauntSums", "deskByPlan", "(II)I"⟩, 10) := ⟨⟨by decide +kernel, by decide +kernel⟩, List.mem_of_getElem? (i := 15) (by decide +kernel), List.mem_of_getElem? (i := 568) (by decide +kernel), List.mem_of_getElem? (i := 569) (by decide +kernel)⟩
theorem lw_p4 : lw_okq (⟨"HauntSums", "harmWith", "(III)I"⟩, 10) := ⟨⟨by decide +kernel, by decide +kernel⟩, List.mem_of_getElem? (i := 15) (by decide +kernel), List.mem_of_getElem? (i := 584) (by decide +kernel), List.mem_of_getElem? (i := 585) (by decide +kernel)⟩
theorem lw_p5 : lw_okq (⟨"HauntSums", "goWithout", "(II)V"⟩, 10) := ⟨⟨by decide +kernel, by decide +kernel⟩, List.mem_of_getElem? (i := 15) (by decide +kernel), List.mem_of_getElem? (i := 598) (by decide +kernel), List.mem_of_getElem? (i := 599) (by decide +kernel)⟩
theorem lw_p6 : lw_okq (⟨"HauntSums", "weight", "(II)I"⟩, 10) := ⟨⟨by decide +kernel, by decide +kernel⟩, List.mem_of_getElem? (i := 15) (by decide +kernel), List.mem_of_getElem? (i := 602) (by decide +kernel), List.mem_of_getElem? (i := 603) (by decide +kernel)⟩
theorem lw_p7 : lw_okq (⟨"HauntSums", "isAsSeen", "(III)Z"⟩, 10) := ⟨⟨by decide +kernel, by decide +kernel⟩, List.mem_of_getElem? (i := 15) (by decide +kernel), List.mem_of_getElem? (i := 628) (by decide +kernel), List.mem_of_getElem? (i := 629) (by decide +kernel)⟩
theorem lw_p8 : lw_okq (⟨"HauntSums", "tallyRooms", "(I)I"⟩, 10) := ⟨⟨by decide +kernel, by decide +kernel⟩, List.mem_of_getElem? (i := 15) (by decide +kernel), List.mem_of_getElem? (i := 648) (by decide +kernel), List.mem_of_getElem? (i := 649) (by decide +kernel)⟩
theorem lw_p9 : lw_okq (⟨"HauntSums", "tallyTrail", "(II)V"⟩, 10) := ⟨⟨by decide +kernel, by decide +kernel⟩, List.mem_of_getElem? (i := 15) (by decide +kernel), List.mem_of_getElem? (i := 652) (by decide +kernel), List.mem_of_getElem? (i := 653) (by decide +kernel)⟩
theorem lw_p10 : lw_okq (⟨"HauntSums", "worstBehind", "(I)I"⟩, 10) := ⟨⟨by decide +kernel, by decide +kernel⟩, List.mem_of_getElem? (i := 15) (by decide +kernel), List.mem_of_getElem? (i := 656) (by decide +kernel), List.mem_of_getElem? (i := 657) (by decide +kernel)⟩
theorem lw_p11 : lw_okq (⟨"HauntSumsModel", "firstDraft", "()V"⟩, 29) := ⟨⟨by decide +kernel, by decide +kernel⟩, List.mem_of_getElem? (i := 733) (by decide +kernel), List.mem_of_getElem? (i := 739) (by decide +kernel), List.mem_of_getElem? (i := 740) (by decide +kernel)⟩
theorem lw_p12 : lw_okq (⟨"HauntSumsModel", "keepDraft", "()V"⟩, 29) := ⟨⟨by decide +kernel, by decide +kernel⟩, List.mem_of_getElem? (i := 733) (by decide +kernel), List.mem_of_getElem? (i := 743) (by decide +kernel), List.mem_of_getElem? (i := 744) (by decide +kernel)⟩
theorem lw_p13 : lw_okq (⟨"HauntSumsModel", "takes", "()V"⟩, 29) := ⟨⟨by decide +kernel, by decide +kernel⟩, List.mem_of_getElem? (i := 733) (by decide +kernel), List.mem_of_getElem? (i := 851) (by decide +kernel), List.mem_of_getElem? (i := 852) (by decide +kernel)⟩
theorem lw_p14 : lw_okq (⟨"HauntSumsModel", "byteAt", "(I)I"⟩, 29) := ⟨⟨by decide +kernel, by decide +kernel⟩, List.mem_of_getElem? (i := 733) (by decide +kernel), List.mem_of_getElem? (i := 855) (by decide +kernel), List.mem_of_getElem? (i := 856) (by decide +kernel)⟩
theorem lw_p15 : lw_okq (⟨"HauntSumsModel", "needs", "(ZI)V"⟩, 29) := ⟨⟨by decide +kernel, by decide +kernel⟩, List.mem_of_getElem? (i := 733) (by decide +kernel), List.mem_of_getElem? (i := 863) (by decide +kernel), List.mem_of_getElem? (i := 864) (by decide +kernel)⟩
def lw_privs_1 : List (MethodName × Nat) := [(⟨"HauntSums", "harmOf", "(I)I"⟩, 10), (⟨"HauntSums", "walkFromNow", "(I)V"⟩, 10), (⟨"HauntSums", "harmByPlan", "(II)I"⟩, 10), (⟨"HauntSums", "deskByPlan", "(II)I"⟩, 10), (⟨"HauntSums", "harmWith", "(III)I"⟩, 10), (⟨"HauntSums", "goWithout", "(II)V"⟩, 10), (⟨"HauntSums", "weight", "(II)I"⟩, 10), (⟨"HauntSums", "isAsSeen", "(III)Z"⟩, 10), (⟨"HauntSums", "tallyRooms", "(I)I"⟩, 10), (⟨"HauntSums", "tallyTrail", "(II)V"⟩, 10), (⟨"HauntSums", "worstBehind", "(I)I"⟩, 10), (⟨"HauntSumsModel", "firstDraft", "()V"⟩, 29), (⟨"HauntSumsModel", "keepDraft", "()V"⟩, 29), (⟨"HauntSumsModel", "takes", "()V"⟩, 29), (⟨"HauntSumsModel", "byteAt", "(I)I"⟩, 29), (⟨"HauntSumsModel", "needs", "(ZI)V"⟩, 29)]
theorem lw_r1 : ∀ q ∈ lw_privs_1, lw_okq q := List.forall_mem_cons.mpr ⟨lw_p0, List.forall_mem_cons.mpr ⟨lw_p1, List.forall_mem_cons.mpr ⟨lw_p2, List.forall_mem_cons.mpr ⟨lw_p3, List.forall_mem_cons.mpr ⟨lw_p4, List.forall_mem_cons.mpr ⟨lw_p5, List.forall_mem_cons.mpr ⟨lw_p6, List.forall_mem_cons.mpr ⟨lw_p7, List.forall_mem_cons.mpr ⟨lw_p8, List.forall_mem_cons.mpr ⟨lw_p9, List.forall_mem_cons.mpr ⟨lw_p10, List.forall_mem_cons.mpr ⟨lw_p11, List.forall_mem_cons.mpr ⟨lw_p12, List.forall_mem_cons.mpr ⟨lw_p13, List.forall_mem_cons.mpr ⟨lw_p14, List.forall_mem_cons.mpr ⟨lw_p15, fun _ h => absurd h List.not_mem_nil⟩⟩⟩⟩⟩⟩⟩⟩⟩⟩⟩⟩⟩⟩⟩⟩
theorem lw_p16 : lw_okq (⟨"HauntSumsModel", "readLine", "()V"⟩, 29) := ⟨⟨by decide +kernel, by decide +kernel⟩, List.mem_of_getElem? (i := 733) (by decide +kernel), List.mem_of_getElem? (i := 867) (by decide +kernel), List.mem_of_getElem? (i := 868) (by decide +kernel)⟩
theorem lw_p17 : lw_okq (⟨"HauntSumsModel", "lineNow", "()I"⟩, 29) := ⟨⟨by decide +kernel, by decide +kernel⟩, List.mem_of_getElem? (i := 733) (by decide +kernel), List.mem_of_getElem? (i := 871) (by decide +kernel), List.mem_of_getElem? (i := 872) (by decide +kernel)⟩
theorem lw_p18 : lw_okq (⟨"HauntSumsModel", "is", "(IIIIII)Z"⟩, 29) := ⟨⟨by decide +kernel, by decide +kernel⟩, List.mem_of_getElem? (i := 733) (by decide +kernel), List.mem_of_getElem? (i := 875) (by decide +kernel), List.mem_of_getElem? (i := 876) (by decide +kernel)⟩
theorem lw_p19 : lw_okq (⟨"HauntSumsModel", "readLineOf", "(I)V"⟩, 29) := ⟨⟨by decide +kernel, by decide +kernel⟩, List.mem_of_getElem? (i := 733) (by decide +kernel), List.mem_of_getElem? (i := 879) (by decide +kernel), List.mem_of_getElem? (i := 880) (by decide +kernel)⟩
theorem lw_p20 : lw_okq (⟨"HauntSumsModel", "readDone", "()V"⟩, 29) := ⟨⟨by decide +kernel, by decide +kernel⟩, List.mem_of_getElem? (i := 733) (by decide +kernel), List.mem_of_getElem? (i := 883) (by decide +kernel), List.mem_of_getElem? (i := 884) (by decide +kernel)⟩
theorem lw_p21 : lw_okq (⟨"HauntSumsModel", "looked", "(II)I"⟩, 29) := ⟨⟨by decide +kernel, by decide +kernel⟩, List.mem_of_getElem? (i := 733) (by decide +kernel), List.mem_of_getElem? (i := 887) (by decide +kernel), List.mem_of_getElem? (i := 888) (by decide +kernel)⟩
theorem lw_p22 : lw_okq (⟨"HauntSumsModel", "readNumber", "(II)I"⟩, 29) := ⟨⟨by decide +kernel, by decide +kernel⟩, List.mem_of_getElem? (i := 733) (by decide +kernel), List.mem_of_getElem? (i := 891) (by decide +kernel), List.mem_of_getElem? (i := 892) (by decide +kernel)⟩
theorem lw_p23 : lw_okq (⟨"HauntSumsModel", "starts", "()V"⟩, 29) := ⟨⟨by decide +kernel, by decide +kernel⟩, List.mem_of_getElem? (i := 733) (by decide +kernel), List.mem_of_getElem? (i := 903) (by decide +kernel), List.mem_of_getElem? (i := 904) (by decide +kernel)⟩
theorem lw_p24 : lw_okq (⟨"HauntSumsModel", "creaks", "(I)I"⟩, 29) := ⟨⟨by decide +kernel, by decide +kernel⟩, List.mem_of_getElem? (i := 733) (by decide +kernel), List.mem_of_getElem? (i := 907) (by decide +kernel), List.mem_of_getElem? (i := 908) (by decide +kernel)⟩
theorem lw_p25 : lw_okq (⟨"HauntSumsModel", "of", "(II)I"⟩, 29) := ⟨⟨by decide +kernel, by decide +kernel⟩, List.mem_of_getElem? (i := 733) (by decide +kernel), List.mem_of_getElem? (i := 911) (by decide +kernel), List.mem_of_getElem? (i := 912) (by decide +kernel)⟩
theorem lw_p26 : lw_okq (⟨"HauntSumsModel", "answer", "(I)I"⟩, 29) := ⟨⟨by decide +kernel, by decide +kernel⟩, List.mem_of_getElem? (i := 733) (by decide +kernel), List.mem_of_getElem? (i := 921) (by decide +kernel), List.mem_of_getElem? (i := 922) (by decide +kernel)⟩
theorem lw_p27 : lw_okq (⟨"HauntSumsModel", "resting", "()I"⟩, 29) := ⟨⟨by decide +kernel, by decide +kernel⟩, List.mem_of_getElem? (i := 733) (by decide +kernel), List.mem_of_getElem? (i := 925) (by decide +kernel), List.mem_of_getElem? (i := 926) (by decide +kernel)⟩
theorem lw_p28 : lw_okq (⟨"HauntSumsModel", "left", "(I)I"⟩, 29) := ⟨⟨by decide +kernel, by decide +kernel⟩, List.mem_of_getElem? (i := 733) (by decide +kernel), List.mem_of_getElem? (i := 929) (by decide +kernel), List.mem_of_getElem? (i := 930) (by decide +kernel)⟩
theorem lw_p29 : lw_okq (⟨"HauntSumsModel", "steps", "(I)I"⟩, 29) := ⟨⟨by decide +kernel, by decide +kernel⟩, List.mem_of_getElem? (i := 733) (by decide +kernel), List.mem_of_getElem? (i := 933) (by decide +kernel), List.mem_of_getElem? (i := 934) (by decide +kernel)⟩
theorem lw_p30 : lw_okq (⟨"HauntSumsModel", "allLeft", "()I"⟩, 29) := ⟨⟨by decide +kernel, by decide +kernel⟩, List.mem_of_getElem? (i := 733) (by decide +kernel), List.mem_of_getElem? (i := 937) (by decide +kernel), List.mem_of_getElem? (i := 938) (by decide +kernel)⟩
theorem lw_p31 : lw_okq (⟨"HauntSumsModel", "isGhost", "(I)Z"⟩, 29) := ⟨⟨by decide +kernel, by decide +kernel⟩, List.mem_of_getElem? (i := 733) (by decide +kernel), List.mem_of_getElem? (i := 945) (by decide +kernel), List.mem_of_getElem? (i := 946) (by decide +kernel)⟩
def lw_privs_2 : List (MethodName × Nat) := [(⟨"HauntSumsModel", "readLine", "()V"⟩, 29), (⟨"HauntSumsModel", "lineNow", "()I"⟩, 29), (⟨"HauntSumsModel", "is", "(IIIIII)Z"⟩, 29), (⟨"HauntSumsModel", "readLineOf", "(I)V"⟩, 29), (⟨"HauntSumsModel", "readDone", "()V"⟩, 29), (⟨"HauntSumsModel", "looked", "(II)I"⟩, 29), (⟨"HauntSumsModel", "readNumber", "(II)I"⟩, 29), (⟨"HauntSumsModel", "starts", "()V"⟩, 29), (⟨"HauntSumsModel", "creaks", "(I)I"⟩, 29), (⟨"HauntSumsModel", "of", "(II)I"⟩, 29), (⟨"HauntSumsModel", "answer", "(I)I"⟩, 29), (⟨"HauntSumsModel", "resting", "()I"⟩, 29), (⟨"HauntSumsModel", "left", "(I)I"⟩, 29), (⟨"HauntSumsModel", "steps", "(I)I"⟩, 29), (⟨"HauntSumsModel", "allLeft", "()I"⟩, 29), (⟨"HauntSumsModel", "isGhost", "(I)Z"⟩, 29)]
theorem lw_r2 : ∀ q ∈ lw_privs_2, lw_okq q := List.forall_mem_cons.mpr ⟨lw_p16, List.forall_mem_cons.mpr ⟨lw_p17, List.forall_mem_cons.mpr ⟨lw_p18, List.forall_mem_cons.mpr ⟨lw_p19, List.forall_mem_cons.mpr ⟨lw_p20, List.forall_mem_cons.mpr ⟨lw_p21, List.forall_mem_cons.mpr ⟨lw_p22, List.forall_mem_cons.mpr ⟨lw_p23, List.forall_mem_cons.mpr ⟨lw_p24, List.forall_mem_cons.mpr ⟨lw_p25, List.forall_mem_cons.mpr ⟨lw_p26, List.forall_mem_cons.mpr ⟨lw_p27, List.forall_mem_cons.mpr ⟨lw_p28, List.forall_mem_cons.mpr ⟨lw_p29, List.forall_mem_cons.mpr ⟨lw_p30, List.forall_mem_cons.mpr ⟨lw_p31, fun _ h => absurd h List.not_mem_nil⟩⟩⟩⟩⟩⟩⟩⟩⟩⟩⟩⟩⟩⟩⟩⟩
theorem lw_p32 : lw_okq (⟨"HauntSumsModel", "isClerk", "(I)Z"⟩, 29) := ⟨⟨by decide +kernel, by decide +kernel⟩, List.mem_of_getElem? (i := 733) (by decide +kernel), List.mem_of_getElem? (i := 953) (by decide +kernel), List.mem_of_getElem? (i := 954) (by decide +kernel)⟩
theorem lw_p33 : lw_okq (⟨"HauntSumsModel", "becomes", "(II)I"⟩, 29) := ⟨⟨by decide +kernel, by decide +kernel⟩, List.mem_of_getElem? (i := 733) (by decide +kernel), List.mem_of_getElem? (i := 971) (by decide +kernel), List.mem_of_getElem? (i := 972) (by decide +kernel)⟩
theorem lw_p34 : lw_okq (⟨"HauntSumsModel", "harmOf", "(I)I"⟩, 29) := ⟨⟨by decide +kernel, by decide +kernel⟩, List.mem_of_getElem? (i := 733) (by decide +kernel), List.mem_of_getElem? (i := 988) (by decide +kernel), List.mem_of_getElem? (i := 989) (by decide +kernel)⟩
theorem lw_p35 : lw_okq (⟨"HauntSumsModel", "nightGoes", "()V"⟩, 29) := ⟨⟨by decide +kernel, by decide +kernel⟩, List.mem_of_getElem? (i := 733) (by decide +kernel), List.mem_of_getElem? (i := 992) (by decide +kernel), List.mem_of_getElem? (i := 993) (by decide +kernel)⟩
theorem lw_p36 : lw_okq (⟨"HauntSumsModel", "firstIn", "(I)I"⟩, 29) := ⟨⟨by decide +kernel, by decide +kernel⟩, List.mem_of_getElem? (i := 733) (by decide +kernel), List.mem_of_getElem? (i := 996) (by decide +kernel), List.mem_of_getElem? (i := 997) (by decide +kernel)⟩
theorem lw_p37 : lw_okq (⟨"HauntSumsModel", "becomesOf", "(III)V"⟩, 29) := ⟨⟨by decide +kernel, by decide +kernel⟩, List.mem_of_getElem? (i := 733) (by decide +kernel), List.mem_of_getElem? (i := 1003) (by decide +kernel), List.mem_of_getElem? (i := 1004) (by decide +kernel)⟩
theorem lw_p38 : lw_okq (⟨"HauntSumsModel", "allHarm", "()I"⟩, 29) := ⟨⟨by decide +kernel, by decide +kernel⟩, List.mem_of_getElem? (i := 733) (by decide +kernel), List.mem_of_getElem? (i := 1007) (by decide +kernel), List.mem_of_getElem? (i := 1008) (by decide +kernel)⟩
theorem lw_p39 : lw_okq (⟨"HauntSumsModel", "settles", "()V"⟩, 29) := ⟨⟨by decide +kernel, by decide +kernel⟩, List.mem_of_getElem? (i := 733) (by decide +kernel), List.mem_of_getElem? (i := 1011) (by decide +kernel), List.mem_of_getElem? (i := 1012) (by decide +kernel)⟩
theorem lw_p40 : lw_okq (⟨"HauntSumsModel", "nightsTo", "(I)I"⟩, 29) := ⟨⟨by decide +kernel, by decide +kernel⟩, List.mem_of_getElem? (i := 733) (by decide +kernel), List.mem_of_getElem? (i := 1031) (by decide +kernel), List.mem_of_getElem? (i := 1032) (by decide +kernel)⟩
theorem lw_p41 : lw_okq (⟨"HauntSumsModel", "postsBy", "(I)V"⟩, 29) := ⟨⟨by decide +kernel, by decide +kernel⟩, List.mem_of_getElem? (i := 733) (by decide +kernel), List.mem_of_getElem? (i := 1051) (by decide +kernel), List.mem_of_getElem? (i := 1052) (by decide +kernel)⟩
theorem lw_p42 : lw_okq (⟨"HauntSumsModel", "findOdds", "(III)V"⟩, 29) := ⟨⟨by decide +kernel, by decide +kernel⟩, List.mem_of_getElem? (i := 733) (by decide +kernel), List.mem_of_getElem? (i := 1077) (by decide +kernel), List.mem_of_getElem? (i := 1078) (by decide +kernel)⟩
theorem lw_p43 : lw_okq (⟨"HauntSumsModel", "isSoWith", "(III)Z"⟩, 29) := ⟨⟨by decide +kernel, by decide +kernel⟩, List.mem_of_getElem? (i := 733) (by decide +kernel), List.mem_of_getElem? (i := 1103) (by decide +kernel), List.mem_of_getElem? (i := 1104) (by decide +kernel)⟩
theorem lw_p44 : lw_okq (⟨"HauntSumsModel", "copies", "(II)V"⟩, 29) := ⟨⟨by decide +kernel, by decide +kernel⟩, List.mem_of_getElem? (i := 733) (by decide +kernel), List.mem_of_getElem? (i := 1125) (by decide +kernel), List.mem_of_getElem? (i := 1126) (by decide +kernel)⟩
def lw_privs_3 : List (MethodName × Nat) := [(⟨"HauntSumsModel", "isClerk", "(I)Z"⟩, 29), (⟨"HauntSumsModel", "becomes", "(II)I"⟩, 29), (⟨"HauntSumsModel", "harmOf", "(I)I"⟩, 29), (⟨"HauntSumsModel", "nightGoes", "()V"⟩, 29), (⟨"HauntSumsModel", "firstIn", "(I)I"⟩, 29), (⟨"HauntSumsModel", "becomesOf", "(III)V"⟩, 29), (⟨"HauntSumsModel", "allHarm", "()I"⟩, 29), (⟨"HauntSumsModel", "settles", "()V"⟩, 29), (⟨"HauntSumsModel", "nightsTo", "(I)I"⟩, 29), (⟨"HauntSumsModel", "postsBy", "(I)V"⟩, 29), (⟨"HauntSumsModel", "findOdds", "(III)V"⟩, 29), (⟨"HauntSumsModel", "isSoWith", "(III)Z"⟩, 29), (⟨"HauntSumsModel", "copies", "(II)V"⟩, 29)]
theorem lw_r3 : ∀ q ∈ lw_privs_3, lw_okq q := List.forall_mem_cons.mpr ⟨lw_p32, List.forall_mem_cons.mpr ⟨lw_p33, List.forall_mem_cons.mpr ⟨lw_p34, List.forall_mem_cons.mpr ⟨lw_p35, List.forall_mem_cons.mpr ⟨lw_p36, List.forall_mem_cons.mpr ⟨lw_p37, List.forall_mem_cons.mpr ⟨lw_p38, List.forall_mem_cons.mpr ⟨lw_p39, List.forall_mem_cons.mpr ⟨lw_p40, List.forall_mem_cons.mpr ⟨lw_p41, List.forall_mem_cons.mpr ⟨lw_p42, List.forall_mem_cons.mpr ⟨lw_p43, List.forall_mem_cons.mpr ⟨lw_p44, fun _ h => absurd h List.not_mem_nil⟩⟩⟩⟩⟩⟩⟩⟩⟩⟩⟩⟩⟩
def lw_privs : List (MethodName × Nat) := lw_privs_1 ++ (lw_privs_2 ++ (lw_privs_3))
def lw_tbl : List Cond := k2_sels lw_privs ++ tables_1
theorem lw_privs_ok : ∀ q ∈ lw_privs, lw_okq q := by
  show ∀ q ∈ lw_privs_1 ++ (lw_privs_2 ++ (lw_privs_3)), lw_okq q
  exact List.forall_mem_append.mpr ⟨lw_r1, List.forall_mem_append.mpr ⟨lw_r2, lw_r3⟩⟩
end
section
def RX0 : String := "HauntSums$Reader"
def TX0 : u_T := fun k => match k with
  | 0 => ("HauntSums$Reader", "tape", "LHauntSums$Tape;", true)
  | 1 => ("HauntSums$Reader", "draft", "LHauntSums$Town;", true)
  | 2 => ("HauntSums$Reader", "doneTold", "[I", true)
  | 3 => ("HauntSums$Reader", "place", "I", false)
  | 4 => ("HauntSums$Reader", "token", "I", false)
  | 5 => ("HauntSums$Reader", "start", "I", false)
  | 6 => ("HauntSums$Reader", "number", "I", false)
  | 7 => ("HauntSums$Reader", "found", "I", false)
  | _ => ("HauntSums$Reader", "foundAt", "I", false)
def tyX0 : Nat → FieldType := fun k => match k with
  | 0 => .object "HauntSums$Tape"
  | 1 => .object "HauntSums$Town"
  | 2 => .array .int
  | 3 => .int
  | 4 => .int
  | 5 => .int
  | 6 => .int
  | 7 => .int
  | _ => .int
theorem nmX0 : ∀ a, a < 9 → ∀ b, b < 9 → a ≠ b → (TX0 a).2.1 ≠ (TX0 b).2.1 := by decide +kernel
theorem tyX0_ok : ∀ k, k < 9 → parseFieldDescriptor (TX0 k).2.2.1 = some (tyX0 k) := by decide +kernel
def RX1 : String := "HauntSums$Sheets"
def TX1 : u_T := fun k => match k with
  | 0 => ("HauntSums$Sheets", "lane", "[I", true)
  | 1 => ("HauntSums$Sheets", "length", "[I", true)
  | _ => ("HauntSums$Sheets", "cells", "[I", true)
def tyX1 : Nat → FieldType := fun k => match k with
  | 0 => .array .int
  | 1 => .array .int
  | _ => .array .int
theorem nmX1 : ∀ a, a < 3 → ∀ b, b < 3 → a ≠ b → (TX1 a).2.1 ≠ (TX1 b).2.1 := by decide +kernel
theorem tyX1_ok : ∀ k, k < 3 → parseFieldDescriptor (TX1 k).2.2.1 = some (tyX1 k) := by decide +kernel
def RX2 : String := "HauntSums$Tape"
def TX2 : u_T := fun k => match k with
  | 0 => ("HauntSums$Tape", "bytes", "[I", true)
  | _ => ("HauntSums$Tape", "length", "I", false)
def tyX2 : Nat → FieldType := fun k => match k with
  | 0 => .array .int
  | _ => .int
theorem nmX2 : ∀ a, a < 2 → ∀ b, b < 2 → a ≠ b → (TX2 a).2.1 ≠ (TX2 b).2.1 := by decide +kernel
theorem tyX2_ok : ∀ k, k < 2 → parseFieldDescriptor (TX2 k).2.2.1 = some (tyX2 k) := by decide +kernel
def RX3 : String := "HauntSums$Town"
def TX3 : u_T := fun k => match k with
  | 0 => ("HauntSums$Town", "ghosts", "I", false)
  | 1 => ("HauntSums$Town", "kind", "[I", true)
  | 2 => ("HauntSums$Town", "a", "[I", true)
  | 3 => ("HauntSums$Town", "b", "[I", true)
  | 4 => ("HauntSums$Town", "room", "[I", true)
  | 5 => ("HauntSums$Town", "done", "[I", true)
  | 6 => ("HauntSums$Town", "clerks", "I", false)
  | 7 => ("HauntSums$Town", "desk", "[I", true)
  | 8 => ("HauntSums$Town", "skill", "[I", true)
  | 9 => ("HauntSums$Town", "night", "I", false)
  | 10 => ("HauntSums$Town", "seen", "I", false)
  | 11 => ("HauntSums$Town", "seenGhost", "[I", true)
  | 12 => ("HauntSums$Town", "seenBehind", "[I", true)
  | _ => ("HauntSums$Town", "seenRoom", "[I", true)
def tyX3 : Nat → FieldType := fun k => match k with
  | 0 => .int
  | 1 => .array .int
  | 2 => .array .int
  | 3 => .array .int
  | 4 => .array .int
  | 5 => .array .int
  | 6 => .int
  | 7 => .array .int
  | 8 => .array .int
  | 9 => .int
  | 10 => .int
  | 11 => .array .int
  | 12 => .array .int
  | _ => .array .int
theorem nmX3 : ∀ a, a < 14 → ∀ b, b < 14 → a ≠ b → (TX3 a).2.1 ≠ (TX3 b).2.1 := by decide +kernel
theorem tyX3_ok : ∀ k, k < 14 → parseFieldDescriptor (TX3 k).2.2.1 = some (tyX3 k) := by decide +kernel
def RX4 : String := "HauntSums$Walk"
def TX4 : u_T := fun k => match k with
  | 0 => ("HauntSums$Walk", "ghosts", "I", false)
  | 1 => ("HauntSums$Walk", "room", "[I", true)
  | 2 => ("HauntSums$Walk", "left", "[I", true)
  | 3 => ("HauntSums$Walk", "pace", "[I", true)
  | 4 => ("HauntSums$Walk", "clerks", "I", false)
  | 5 => ("HauntSums$Walk", "desk", "[I", true)
  | 6 => ("HauntSums$Walk", "skill", "[I", true)
  | 7 => ("HauntSums$Walk", "harmDone", "I", false)
  | _ => ("HauntSums$Walk", "harmIn", "[I", true)
def tyX4 : Nat → FieldType := fun k => match k with
  | 0 => .int
  | 1 => .array .int
  | 2 => .array .int
  | 3 => .array .int
  | 4 => .int
  | 5 => .array .int
  | 6 => .array .int
  | 7 => .int
  | _ => .array .int
theorem nmX4 : ∀ a, a < 9 → ∀ b, b < 9 → a ≠ b → (TX4 a).2.1 ≠ (TX4 b).2.1 := by decide +kernel
theorem tyX4_ok : ∀ k, k < 9 → parseFieldDescriptor (TX4 k).2.2.1 = some (tyX4 k) := by decide +kernel
def RX5 : String := "HauntSums"
def TX5 : u_T := fun k => match k with
  | 0 => ("HauntSums", "walk", "LHauntSums$Walk;", true)
  | 1 => ("HauntSums", "now", "LHauntSums$Town;", true)
  | 2 => ("HauntSums", "tape", "LHauntSums$Tape;", true)
  | 3 => ("HauntSums", "reader", "LHauntSums$Reader;", true)
  | 4 => ("HauntSums", "images", "[LHauntSums$Town;", true)
  | 5 => ("HauntSums", "imageIs", "[Z", true)
  | 6 => ("HauntSums", "sheets", "LHauntSums$Sheets;", true)
  | 7 => ("HauntSums", "tally", "[I", true)
  | 8 => ("HauntSums", "textFault", "I", false)
  | _ => ("HauntSums", "readFault", "I", false)
def tyX5 : Nat → FieldType := fun k => match k with
  | 0 => .object "HauntSums$Walk"
  | 1 => .object "HauntSums$Town"
  | 2 => .object "HauntSums$Tape"
  | 3 => .object "HauntSums$Reader"
  | 4 => .array (.object "HauntSums$Town")
  | 5 => .array .boolean
  | 6 => .object "HauntSums$Sheets"
  | 7 => .array .int
  | 8 => .int
  | _ => .int
theorem nmX5 : ∀ a, a < 10 → ∀ b, b < 10 → a ≠ b → (TX5 a).2.1 ≠ (TX5 b).2.1 := by decide +kernel
theorem tyX5_ok : ∀ k, k < 10 → parseFieldDescriptor (TX5 k).2.2.1 = some (tyX5 k) := by decide +kernel
def RX6 : String := "HauntSumsModel"
def TX6 : u_T := fun k => match k with
  | 0 => ("HauntSumsModel", "st", "[I", true)
  | 1 => ("HauntSumsModel", "now", "[I", true)
  | 2 => ("HauntSumsModel", "isKept", "[Z", true)
  | 3 => ("HauntSumsModel", "clerks", "I", false)
  | 4 => ("HauntSumsModel", "draft", "[I", true)
  | 5 => ("HauntSumsModel", "dClerks", "I", false)
  | 6 => ("HauntSumsModel", "toldDone", "I", false)
  | 7 => ("HauntSumsModel", "doneOf", "[I", true)
  | 8 => ("HauntSumsModel", "highest", "I", false)
  | 9 => ("HauntSumsModel", "tape", "[I", true)
  | 10 => ("HauntSumsModel", "taped", "I", false)
  | 11 => ("HauntSumsModel", "pos", "I", false)
  | 12 => ("HauntSumsModel", "begun", "I", false)
  | 13 => ("HauntSumsModel", "sort", "I", false)
  | 14 => ("HauntSumsModel", "value", "I", false)
  | 15 => ("HauntSumsModel", "fault", "I", false)
  | 16 => ("HauntSumsModel", "wrongAt", "I", false)
  | 17 => ("HauntSumsModel", "ill", "I", false)
  | 18 => ("HauntSumsModel", "harmIn", "[I", true)
  | 19 => ("HauntSumsModel", "restSum", "J", false)
  | 20 => ("HauntSumsModel", "harmSum", "J", false)
  | 21 => ("HauntSumsModel", "allWays", "J", false)
  | 22 => ("HauntSumsModel", "walked", "[I", true)
  | 23 => ("HauntSumsModel", "ways", "[I", true)
  | 24 => ("HauntSumsModel", "lanes", "[I", true)
  | 25 => ("HauntSumsModel", "sizes", "[I", true)
  | 26 => ("HauntSumsModel", "cells", "[I", true)
  | 27 => ("HauntSumsModel", "torn", "I", false)
  | _ => ("HauntSumsModel", "before", "[I", true)
def tyX6 : Nat → FieldType := fun k => match k with
  | 0 => .array .int
  | 1 => .array .int
  | 2 => .array .boolean
  | 3 => .int
  | 4 => .array .int
  | 5 => .int
  | 6 => .int
  | 7 => .array .int
  | 8 => .int
  | 9 => .array .int
  | 10 => .int
  | 11 => .int
  | 12 => .int
  | 13 => .int
  | 14 => .int
  | 15 => .int
  | 16 => .int
  | 17 => .int
  | 18 => .array .int
  | 19 => .long
  | 20 => .long
  | 21 => .long
  | 22 => .array .int
  | 23 => .array .int
  | 24 => .array .int
  | 25 => .array .int
  | 26 => .array .int
  | 27 => .int
  | _ => .array .int
theorem nmX6 : ∀ a, a < 29 → ∀ b, b < 29 → a ≠ b → (TX6 a).2.1 ≠ (TX6 b).2.1 := by decide +kernel
theorem tyX6_ok : ∀ k, k < 29 → parseFieldDescriptor (TX6 k).2.2.1 = some (tyX6 k) := by decide +kernel
abbrev vwCl : List vw_C := [(RX0, TX0, 9), (RX1, TX1, 3), (RX2, TX2, 2), (RX3, TX3, 14), (RX4, TX4, 9), (RX5, TX5, 10), (RX6, TX6, 29)]
def hs_U : List Cond := lw_tbl.filter goodWord
theorem hs_in {w : Cond} (i : Nat) (h : lw_tbl[i]? = some w) (g : goodWord w = true) : w ∈ hs_U := List.mem_filter.mpr ⟨List.mem_of_getElem? h, g⟩
theorem hs_good : ∀ w ∈ hs_U, (w.onTables && w.keeps) = true ∨ ∃ ty, w = .arrayClass ty := fun w h => good_of_word (List.mem_filter.mp h).2
theorem inX0 : ∀ w ∈ u_ws RX0 TX0 9, w ∈ hs_U := by decide +kernel
theorem inX1 : ∀ w ∈ u_ws RX1 TX1 3, w ∈ hs_U := by decide +kernel
theorem inX2 : ∀ w ∈ u_ws RX2 TX2 2, w ∈ hs_U := by decide +kernel
theorem inX3 : ∀ w ∈ u_ws RX3 TX3 14, w ∈ hs_U := by decide +kernel
theorem inX4 : ∀ w ∈ u_ws RX4 TX4 9, w ∈ hs_U := by decide +kernel
theorem inX5 : ∀ w ∈ u_ws RX5 TX5 10, w ∈ hs_U := by decide +kernel
theorem inX6 : ∀ w ∈ u_ws RX6 TX6 29, w ∈ hs_U := by decide +kernel
end
section
/-! THE WORLD: 77 cells of fixed shape; only whole numbers in it change. A state: what each cell holds by its places, and the long fields. -/
abbrev hs_St : Type := (Nat → Nat → Int32) × (Nat → Int64)
abbrev hs_Sh : Type := (Nat × Nat) ⊕ (Nat × List (Option (Option Nat)))
/-- what is fixed in a launch: the classes' numbers and slots, the array classes, the addresses of the cells (and from 1000 on of the texts), the addresses of the texts' bytes -/
abbrev hs_G : Type := va_G × (Nat → ClassId) × (Nat → Nat) × (Nat → Nat)
/-- a method: name, bytes, locals, return type, frames, words -/
abbrev hs_M : Type := MethodName × ByteArray × Nat × Option FieldType × Nat × Nat
def hs_rm (d : hs_M) : Room := { frames := d.2.2.2.2.1, cells := 0, slots := 0, locals := d.2.2.2.2.2 }
def hs_ws (d : hs_M) : List Cond := Cond.code d.1 d.2.1 d.2.2.1 d.2.2.2.1 :: hs_U
def hs_shape : List hs_Sh := [.inr (5, [some (some 1), some (some 8), some (some 19), some (some 21), some (some 34), some (some 57), some (some 58), some (some 62), none, none]), .inr (4, [none, some (some 2), some (some 3), some (some 4), none, some (some 5), some (some 6), none, some (some 7)]), .inl (0, 4), .inl (0, 4), .inl (0, 4), .inl (0, 3), .inl (0, 3), .inl (0, 6), .inr (3, [none, some (some 9), some (some 10), some (some 11), some (some 12), some (some 13), none, some (some 14), some (some 15), none, none, some (some 16), some (some 17), some (some 18)]), .inl (0, 4), .inl (0, 4), .inl (0, 4), .inl (0, 4), .inl (0, 4), .inl (0, 3), .inl (0, 3), .inl (0, 6), .inl (0, 6), .inl (0, 6), .inr (2, [some (some 20), none]), .inl (0, 160), .inr (0, [some (some 19), some (some 22), some (some 33), none, none, none, none, none, none]), .inr (3, [none, some (some 23), some (some 24), some (some 25), some (some 26), some (some 27), none, some (some 28), some (some 29), none, none, some (some 30), some (some 31), some (some 32)]), .inl (0, 4), .inl (0, 4), .inl (0, 4), .inl (0, 4), .inl (0, 4), .inl (0, 3), .inl (0, 3), .inl (0, 6), .inl (0, 6), .inl (0, 6), .inl (0, 4), .inl (2, 2), .inr (3, [none, some (some 36), some (some 37), some (some 38), some (some 39), some (some 40), none, some (some 41), some (some 42), none, none, some (some 43), some (some 44), some (some 45)]), .inl (0, 4), .inl (0, 4), .inl (0, 4), .inl (0, 4), .inl (0, 4), .inl (0, 3), .inl (0, 3), .inl (0, 6), .inl (0, 6), .inl (0, 6), .inr (3, [none, some (some 47), some (some 48), some (some 49), some (some 50), some (some 51), none, some (some 52), some (some 53), none, none, some (some 54), some (some 55), some (some 56)]), .inl (0, 4), .inl (0, 4), .inl (0, 4), .inl (0, 4), .inl (0, 4), .inl (0, 3), .inl (0, 3), .inl (0, 6), .inl (0, 6), .inl (0, 6), .inl (1, 2), .inr (1, [some (some 59), some (some 60), some (some 61)]), .inl (0, 4), .inl (0, 4), .inl (0, 160), .inl (0, 126), .inr (6, [some (some 64), some (some 65), some (some 66), none, some (some 67), none, none, some (some 68), none, some (some 69), none, none, none, none, none, none, none, none, some (some 70), some none, some none, some none, some (some 71), some (some 72), some (some 73), some (some 74), some (some 75), none, some (some 76)]), .inl (0, 141), .inl (0, 47), .inl (1, 2), .inl (0, 47), .inl (0, 4), .inl (0, 160), .inl (0, 6), .inl (0, 84), .inl (0, 126), .inl (0, 4), .inl (0, 4), .inl (0, 160), .inl (0, 47)]
def hs_img (j : Nat) : Nat := if j = 0 then 35 else 46
def hs_fv (G : hs_G) (σ : hs_St) (k j : Nat) : Option (Option Nat) → Value
  | none => .int (σ.1 k j)
  | some none => .long (σ.2 j)
  | some (some r) => .ref (G.2.2.1 r)
def hs_fs (G : hs_G) (σ : hs_St) (k : Nat) (fd : List (Option (Option Nat))) : List Value := fd.mapIdx (fun j d => hs_fv G σ k j d)
def hs_cell (G : hs_G) (σ : hs_St) (k : Nat) : hs_Sh → va_E
  | .inl q => if q.1 = 2 then .inl (G.2.1 2, q.2, .inr (.inr (.inr (.inr (fun j => some (G.2.2.1 (hs_img j))))))) else .inl (G.2.1 q.1, q.2, .inl (σ.1 k))
  | .inr q => .inr (q.1, hs_fs G σ k q.2)
def hs_enc (G : hs_G) (σ : hs_St) : va_W := hs_shape.mapIdx (fun k s => (G.2.2.1 k, hs_cell G σ k s))
def hs_tys (G : hs_G) : List (ClassId × FieldType) := [(G.2.1 0, .int), (G.2.1 1, .boolean), (G.2.1 2, .object "HauntSums$Town")]
def hs_ua (σ : hs_St) (k : Nat) (f : Nat → Int32) : hs_St := (fun j => if j = k then f else σ.1 j, σ.2)
def hs_w (σ : hs_St) (k i : Nat) (v : Int32) : hs_St := hs_ua σ k (upd (σ.1 k) i v)
def hs_wl (σ : hs_St) (i : Nat) (v : Int64) : hs_St := (σ.1, vp_updL σ.2 i v)
def hs_tr (a : Nat → Nat) : Value → Value
  | .ref k => .ref (a k)
  | v => v
def hs_tv (a : Nat → Nat) (q : Nat × Value) : Nat × Value := (q.1, hs_tr a q.2)
theorem hs_tr_cat (a : Nat → Nat) (v : Value) : (hs_tr a v).category = v.category := by cases v <;> rfl
theorem hs_tr_sum (a : Nat → Nat) (l : List Value) : ((l.map (hs_tr a)).map fun v => v.category).sum = (l.map fun v => v.category).sum := by
  rw [List.map_map]
  congr 1
  exact List.map_congr_left fun v _ => hs_tr_cat a v
theorem hs_enc_at {G : hs_G} {σ : hs_St} {k : Nat} {s : hs_Sh} (h : hs_shape[k]? = some s) : (hs_enc G σ)[k]? = some (G.2.2.1 k, hs_cell G σ k s) := by
  simp [hs_enc, List.getElem?_mapIdx, h]
theorem hs_enc_adr {G : hs_G} {σ : hs_St} {k : Nat} {q : Nat × va_E} (h : (hs_enc G σ)[k]? = some q) : k < 77 ∧ q.1 = G.2.2.1 k := by
  rw [hs_enc, List.getElem?_mapIdx] at h
  cases hs : hs_shape[k]? with
  | none => rw [hs] at h; cases h
  | some s =>
    rw [hs] at h
    have hl : k < hs_shape.length := (List.getElem?_eq_some_iff.mp hs).1
    have h77 : hs_shape.length = 77 := by decide +kernel
    cases h
    exact ⟨by omega, rfl⟩
theorem hs_mapIdx {α β : Type} {f g : Nat → α → β} {l : List α} (h : ∀ i d, l[i]? = some d → f i d = g i d) : l.mapIdx f = l.mapIdx g := by
  apply List.ext_getElem?
  intro i
  simp only [List.getElem?_mapIdx]
  cases hd : l[i]? with
  | none => rfl
  | some d => simp only [Option.map_some, h i d hd]
theorem hs_cell_ne {G : hs_G} {σ : hs_St} {k j : Nat} {f : Nat → Int32} (s : hs_Sh) (h : j ≠ k) : hs_cell G (hs_ua σ k f) j s = hs_cell G σ j s := by
  have e : (hs_ua σ k f).1 j = σ.1 j := by simp [hs_ua, h]
  cases s with
  | inl q => simp only [hs_cell, e]
  | inr q =>
    simp only [hs_cell, hs_fs]
    congr 2
    refine hs_mapIdx ?_
    intro i d _
    cases d with
    | none => simp only [hs_fv, e]
    | some x => cases x <;> rfl
theorem hs_enc_ua {G : hs_G} {σ : hs_St} {k t n : Nat} {f : Nat → Int32} (h : hs_shape[k]? = some (.inl (t, n))) (ht : t ≠ 2) : (hs_enc G σ).set k (G.2.2.1 k, .inl (G.2.1 t, n, .inl f)) = hs_enc G (hs_ua σ k f) := by
  apply List.ext_getElem?
  intro j
  rw [List.getElem?_set]
  by_cases hj : k = j
  · subst hj
    have hl := (List.getElem?_eq_some_iff.mp (hs_enc_at (G := G) (σ := σ) h)).1
    rw [if_pos rfl, if_pos hl, hs_enc_at h]
    simp only [hs_cell, if_neg ht, hs_ua, if_true]
  · rw [if_neg hj]
    simp only [hs_enc, List.getElem?_mapIdx]
    cases hs_shape[j]? with
    | none => rfl
    | some s => simp only [Option.map_some, hs_cell_ne s (Ne.symm hj)]
theorem hs_fs_at {G : hs_G} {σ : hs_St} {k j : Nat} {fd : List (Option (Option Nat))} {x : Option (Option Nat)} (h : fd[j]? = some x) : (hs_fs G σ k fd)[j]? = some (hs_fv G σ k j x) := by
  simp [hs_fs, List.getElem?_mapIdx, h]
theorem hs_fs_set {G : hs_G} {σ : hs_St} {k j : Nat} {fd : List (Option (Option Nat))} {v : Int32} (h : fd[j]? = some none) : (hs_fs G σ k fd).set j (.int v) = hs_fs G (hs_w σ k j v) k fd := by
  apply List.ext_getElem?
  intro i
  rw [List.getElem?_set]
  by_cases hj : j = i
  · subst hj
    have hl := (List.getElem?_eq_some_iff.mp (hs_fs_at (G := G) (σ := σ) (k := k) h)).1
    rw [if_pos rfl, if_pos hl, hs_fs_at h]
    simp [hs_fv, hs_w, hs_ua, upd]
  · rw [if_neg hj]
    simp only [hs_fs, List.getElem?_mapIdx]
    cases fd[i]? with
    | none => rfl
    | some d =>
      cases d with
      | none => simp [hs_fv, hs_w, hs_ua, upd, Ne.symm hj]
      | some x => cases x <;> rfl
theorem hs_enc_w {G : hs_G} {σ : hs_St} {k j ci : Nat} {fd : List (Option (Option Nat))} {v : Int32} (h : hs_shape[k]? = some (.inr (ci, fd))) (hj : fd[j]? = some none) : (hs_enc G σ).set k (G.2.2.1 k, .inr (ci, (hs_fs G σ k fd).set j (.int v))) = hs_enc G (hs_w σ k j v) := by
  apply List.ext_getElem?
  intro i
  rw [List.getElem?_set]
  by_cases hi : k = i
  · subst hi
    have hl := (List.getElem?_eq_some_iff.mp (hs_enc_at (G := G) (σ := σ) h)).1
    rw [if_pos rfl, if_pos hl, hs_enc_at h, hs_fs_set hj]
    rfl
  · rw [if_neg hi]
    simp only [hs_enc, List.getElem?_mapIdx]
    cases hs_shape[i]? with
    | none => rfl
    | some s => simp only [Option.map_some, hs_w, hs_cell_ne s (Ne.symm hi)]
def hs_noL : hs_Sh → Bool
  | .inl _ => true
  | .inr q => q.2.all (fun d => d != some none)
theorem hs_noLs : ∀ k, k < 77 → k ≠ 63 → (hs_shape[k]?.map hs_noL) = some true := by decide +kernel
theorem hs_cell_wl {G : hs_G} {σ : hs_St} {k j : Nat} {v : Int64} (s : hs_Sh) (h : hs_noL s = true) : hs_cell G (hs_wl σ j v) k s = hs_cell G σ k s := by
  cases s with
  | inl q => rfl
  | inr q =>
    simp only [hs_cell, hs_fs]
    congr 2
    refine hs_mapIdx ?_
    intro i d hd0
    have hd : d ∈ q.2 := List.mem_of_getElem? hd0
    cases d with
    | none => rfl
    | some x =>
      cases x with
      | none =>
        have h1 := List.all_eq_true.mp (show q.2.all (fun d => d != some none) = true from h) (some none) hd
        simp at h1
      | some r => rfl
theorem hs_enc_wl {G : hs_G} {σ : hs_St} {j ci : Nat} {fd : List (Option (Option Nat))} {v : Int64} (h : hs_shape[63]? = some (.inr (ci, fd))) (hj : fd[j]? = some (some none)) : (hs_enc G σ).set 63 (G.2.2.1 63, .inr (ci, (hs_fs G σ 63 fd).set j (.long v))) = hs_enc G (hs_wl σ j v) := by
  apply List.ext_getElem?
  intro i
  rw [List.getElem?_set]
  by_cases hi : 63 = i
  · subst hi
    have hl := (List.getElem?_eq_some_iff.mp (hs_enc_at (G := G) (σ := σ) h)).1
    rw [if_pos rfl, if_pos hl, hs_enc_at h]
    have e : (hs_fs G σ 63 fd).set j (.long v) = hs_fs G (hs_wl σ j v) 63 fd := by
      apply List.ext_getElem?
      intro i
      rw [List.getElem?_set]
      by_cases hj2 : j = i
      · subst hj2
        have hl := (List.getElem?_eq_some_iff.mp (hs_fs_at (G := G) (σ := σ) (k := 63) hj)).1
        rw [if_pos rfl, if_pos hl, hs_fs_at hj]
        simp [hs_fv, hs_wl, vp_updL]
      · rw [if_neg hj2]
        simp only [hs_fs, List.getElem?_mapIdx]
        cases fd[i]? with
        | none => rfl
        | some d =>
          cases d with
          | none => rfl
          | some x =>
            cases x with
            | none => simp [hs_fv, hs_wl, vp_updL, Ne.symm hj2]
            | some r => rfl
    rw [e]
    rfl
  · rw [if_neg hi]
    simp only [hs_enc, List.getElem?_mapIdx]
    cases hs : hs_shape[i]? with
    | none => rfl
    | some s =>
      have hl : i < hs_shape.length := (List.getElem?_eq_some_iff.mp hs).1
      have h77 : hs_shape.length = 77 := by decide +kernel
      have h1 := hs_noLs i (by omega) (fun e => hi e.symm)
      rw [hs] at h1
      simp only [Option.map_some, hs_cell_wl s (Option.some.inj h1)]
/-- the addresses are apart, and of a kind: for one state as for another -/
theorem hs_D {G : hs_G} {σ τ : hs_St} {A : Nat → Prop} (h : va_D A (hs_enc G σ)) : va_D A (hs_enc G τ) := by
  have back : ∀ {k : Nat} {q : Nat × va_E}, (hs_enc G τ)[k]? = some q → ∃ q', (hs_enc G σ)[k]? = some q' ∧ q'.1 = q.1 := by
    intro k q hq
    rw [hs_enc, List.getElem?_mapIdx] at hq
    cases hs : hs_shape[k]? with
    | none => rw [hs] at hq; cases hq
    | some s =>
      rw [hs] at hq
      cases hq
      exact ⟨_, hs_enc_at hs, rfl⟩
  refine ⟨fun i j p q hp hq e => ?_, fun k q hq => ?_⟩
  · obtain ⟨p', h1, e1⟩ := back hp
    obtain ⟨q', h2, e2⟩ := back hq
    exact h.1 i j p' q' h1 h2 (by rw [e1, e2, e])
  · obtain ⟨q', h1, e1⟩ := back hq
    rw [← e1]
    exact h.2 k q' h1
theorem hs_A {G : hs_G} {σ τ : hs_St} {sz q : Nat} (h : va_A (hs_enc G σ) sz q) : va_A (hs_enc G τ) sz q := by
  rcases h with ⟨k, e, h⟩ | h
  · rw [hs_enc, List.getElem?_mapIdx] at h
    cases hs : hs_shape[k]? with
    | none => rw [hs] at h; cases h
    | some s =>
      rw [hs] at h
      cases h
      exact Or.inl ⟨k, _, hs_enc_at hs⟩
  · exact Or.inr h
/-! WHAT HOLDS OF A LAUNCH'S TABLES: nest mates' links, the texts -/
def hs_nest : List Cond := [(Cond.methodLinkNest "HauntSums" 9 ⟨"HauntSums$Walk", "<init>", "()V"⟩ "HauntSums"), (Cond.methodLinkNest "HauntSums" 18 ⟨"HauntSums$Town", "<init>", "()V"⟩ "HauntSums"), (Cond.methodLinkNest "HauntSums" 25 ⟨"HauntSums$Tape", "<init>", "()V"⟩ "HauntSums"), (Cond.methodLinkNest "HauntSums$Reader" 11 ⟨"HauntSums$Town", "<init>", "()V"⟩ "HauntSums"), (Cond.methodLinkNest "HauntSums" 49 ⟨"HauntSums$Sheets", "<init>", "()V"⟩ "HauntSums"), (Cond.methodLinkNest "HauntSums$Town" 61 ⟨"HauntSums", "within", "(III)Z"⟩ "HauntSums"), (Cond.methodLinkNest "HauntSums$Reader" 133 ⟨"HauntSums", "within", "(III)Z"⟩ "HauntSums"), (Cond.methodLinkNest "HauntSums$Walk" 63 ⟨"HauntSums", "answerOf", "(III)I"⟩ "HauntSums"), (Cond.methodLinkNest "HauntSums$Walk" 67 ⟨"HauntSums", "stepsOf", "(II)I"⟩ "HauntSums"), (Cond.methodLinkNest "HauntSums$Town" 85 ⟨"HauntSums", "sevensOf", "(I)I"⟩ "HauntSums"), (Cond.methodLinkNest "HauntSums$Town" 65 ⟨"HauntSums", "answerOf", "(III)I"⟩ "HauntSums"), (Cond.methodLinkNest "HauntSums$Town" 73 ⟨"HauntSums", "stepsOf", "(II)I"⟩ "HauntSums"), (Cond.methodLinkNest "HauntSums$Sheets" 21 ⟨"HauntSums", "within", "(III)Z"⟩ "HauntSums")]
def hs_N (U : State) : Prop := ∀ w ∈ hs_nest, va_Nw w U
def hs_len : List Nat := [4, 4, 5, 4, 4, 5]
def hs_byt : List (List Int32) := [[112, 108, 117, 115], [108, 101, 115, 115], [116, 105, 109, 101, 115], [111, 118, 101, 114], [100, 111, 110, 101], [99, 108, 101, 114, 107]]
def hs_txt : List (Nat × String) := [(90, "plus"), (96, "less"), (98, "times"), (100, "over"), (102, "done"), (103, "clerk")]
/-- the texts and the JDK's statics, at cells that nobody writes -/
def hs_X (G : hs_G) (A : Nat → Prop) (U : State) (H : Heap) : Prop :=
  vk_S 6 hs_len hs_byt (fun i => G.2.2.1 (1000 + i)) G.2.2.2 A U H ∧ (∀ i q, hs_txt[i]? = some q → vk_R "HauntSums$Reader" q.1 q.2 (G.2.2.1 (1000 + i)) U) ∧ va_Z "java/lang/String" "COMPACT_STRINGS" "Z" (.int 1) A U H ∧ ∃ v : Value, (v = .null ∨ ∃ a, v = .ref a) ∧ va_Z "jdk/internal/util/Preconditions" "SIOOBE_FORMATTER" "Ljava/util/function/BiFunction;" v A U H
theorem hs_nest_ok : ∀ w ∈ hs_nest, ∃ a i x h, w = .methodLinkNest a i x h := by
  intro w hw
  simp only [hs_nest, List.mem_cons, List.not_mem_nil, or_false] at hw
  rcases hw with rfl | rfl | rfl | rfl | rfl | rfl | rfl | rfl | rfl | rfl | rfl | rfl | rfl <;> exact ⟨_, _, _, _, rfl⟩
theorem hs_N.warm {s U : State} (hW : s.WarmedH U.vm) (h : hs_N s) : hs_N U := by
  intro w hw
  obtain ⟨a, i, x, hh, rfl⟩ := hs_nest_ok w hw
  exact (h _ hw).warmM hW
theorem hs_N.same {u U : State} (hv : u.vm = U.vm) (h : hs_N u) : hs_N U := by
  intro w hw
  obtain ⟨a, i, x, hh, rfl⟩ := hs_nest_ok w hw
  exact (h _ hw).same rfl hv
theorem hs_X.warm {G : hs_G} {A : Nat → Prop} {s U : State} {H : Heap} (hW : s.WarmedH U.vm) (h : hs_X G A s H) : hs_X G A U H := by
  obtain ⟨h1, h2, h3, v, hv, h4⟩ := h
  exact ⟨h1.moved hW.alike, fun i q hq => (h2 i q hq).warm hW, h3.moved hW.alike, v, hv, h4.moved hW.alike⟩
theorem hs_X.same {G : hs_G} {A : Nat → Prop} {u U : State} {H : Heap} (hv : u.vm = U.vm) (h : hs_X G A u H) : hs_X G A U H := by
  obtain ⟨h1, h2, h3, v, hv4, h4⟩ := h
  have ha : u.vm.Alike U.vm := by rw [← hv]; exact Vm.Alike.refl _
  exact ⟨h1.moved ha, fun i q hq => (h2 i q hq).same hv.symm, h3.moved ha, v, hv4, h4.moved ha⟩
theorem hs_X.kept {G : hs_G} {A : Nat → Prop} {U : State} {H H1 : Heap} (h : hs_X G A U H) (hq : ∀ a : Nat, a < H.size → ¬ A a → H1[a]? = H[a]?) : hs_X G A U H1 := by
  obtain ⟨h1, h2, h3, v, hv, h4⟩ := h
  exact ⟨h1.kept hq, h2, h3.kept hq, v, hv, h4.kept hq⟩
theorem hs_X.narrow {G : hs_G} {A B : Nat → Prop} {U : State} {H : Heap} (h : hs_X G A U H) (hAB : ∀ q, B q → A q) : hs_X G B U H := by
  obtain ⟨h1, h2, h3, v, hv, h4⟩ := h
  exact ⟨h1.narrow hAB, h2, h3.narrow hAB, v, hv, h4.narrow hAB⟩
/-! THE CONTRACT of a method over the world, and the judgement at a place of its code -/
def hs_Pc (G : hs_G) (σ : hs_St) (av : List Value) (sz : Nat) : Array Value → State → Prop :=
  va_Pc (av.map (hs_tr G.2.2.1)) (fun U => U.heap.size = sz ∧ va_P G.1 vwCl (hs_enc G σ) U.heap ∧ va_K G.1 vwCl (hs_tys G) U ∧ va_D (fun _ => True) (hs_enc G σ) ∧ hs_N U ∧ hs_X G (va_A (hs_enc G σ) sz) U U.heap)
def hs_Qc (G : hs_G) (A : Nat → Prop) (K : Option Value → hs_St → Prop) : Array Value → State → Outcome → State → Prop :=
  fun _ st oc t => (∃ (r : Option Value) (τ : hs_St), oc = .returned (r.map (hs_tr G.2.2.1)) ∧ K r τ ∧ va_P G.1 vwCl (hs_enc G τ) t.heap) ∧ va_F A st t
def hs_Ok (d : hs_M) (av : List Value) (σ : hs_St) (K : Option Value → hs_St → Prop) : Prop :=
  ∀ (l : Launch) (G : hs_G) (sz : Nat), Met l d.1 (hs_ws d) (hs_rm d) (hs_Pc G σ av sz) (hs_Qc G (va_A (hs_enc G σ) sz) K) 0 0 (va_A (hs_enc G σ) sz)
def hs_Cx (d : hs_M) (p : Program) (s : State) (m : MethodId) (args : Array Value) (meth : Method) (c : Code) (G : hs_G) (A : Nat → Prop) : Prop :=
  p.tables.exec = Jvm.exec ∧ c.code = d.2.1 ∧ meth.sig.returnType = d.2.2.2.1 ∧ c.maxLocals = d.2.2.1 ∧ s.vm.findClass d.1.cls = some m.cls ∧ (∀ w ∈ hs_ws d, w.before args s = true) ∧ meth.locks = false ∧
  va_K G.1 vwCl (hs_tys G) s ∧ hs_N s ∧ hs_X G A s s.heap ∧ (∀ q, s.heap.size ≤ q → A q) ∧ ∀ σ, va_D A (hs_enc G σ)
def hs_Rn (d : hs_M) (pc : Nat) (lv : List (Nat × Value)) (st : List Value) (σ : hs_St) (K : Option Value → hs_St → Prop) : Prop :=
  ∀ (p : Program) (l : Launch) (e : Env) (s : State) (m : MethodId) (args : Array Value) (below : List Frame) (meth : Method) (c : Code) (G : hs_G) (A : Nat → Prop), hs_Cx d p s m args meth c G A →
    ∀ (H : Heap) (locs : List Loc) (ls : Array Slot), va_P G.1 vwCl (hs_enc G σ) H → va_S A s.heap H locs → lv_has ls d.2.2.1 (lv.map (hs_tv G.2.2.1)) →
      W p l e (hs_rm d) s m args below meth c H locs 0 0 (MQ below (hs_Qc G A K) args s 0 0 A) (F0 m pc ls (st.map (hs_tr G.2.2.1)))
theorem hs_args_tv (a : Nat → Nat) : ∀ (vs : List Value) (i : Nat), lv_args i (vs.map (hs_tr a)) = (lv_args i vs).map (hs_tv a)
  | [], _ => rfl
  | v :: vs, i => by
    simp only [List.map_cons, lv_args, hs_tr_cat]
    rw [hs_args_tv a vs]
    rfl
theorem hs_sl_len (a : Nat → Nat) : ∀ (vs : List Value), (lg_sl (vs.map (hs_tr a))).length = (lg_sl vs).length
  | [] => rfl
  | v :: vs => by
    have h := hs_sl_len a vs
    simp only [lg_sl, List.map_cons, List.flatMap_cons, List.length_append, hs_tr_cat] at h ⊢
    rw [h]
    split <;> rfl
theorem hs_ok_of {d : hs_M} {av : List Value} {σ : hs_St} {K : Option Value → hs_St → Prop} (hy : plainName d.1.cls = true) (hn : (lg_sl av).length ≤ d.2.2.1) (h : hs_Rn d 0 (lv_args 0 av) [] σ K) : hs_Ok d av σ K := by
  intro l G sz
  refine Met.ofW (cc := d.2.1) (maxL := d.2.2.1) (ret := d.2.2.2.1) hy rfl ?_
  intro p e s m args below meth c s₁ B hml hv
  obtain ⟨rfl, hsz, hP, hK, hD0, hN, hX⟩ := hv
  subst hsz
  have hts := atoms_spec (ws := hs_ws d) B.pre
  have hown : s.vm.findClass d.1.cls = some m.cls := findClass_of_methodNamed B.named
  have hC : hs_Cx d p s m (av.map (hs_tr G.2.2.1)).toArray meth c G (va_A (hs_enc G σ) s.heap.size) :=
    ⟨B.exec, B.bytes, B.returns, hml, hown, hts, B.notSynchronized, hK, hN, hX, fun q h => Or.inr h, fun τ => hs_D (σ := σ) (hD0.self (sz := s.heap.size))⟩
  have hl := lv_entry (av.map (hs_tr G.2.2.1)) (n := d.2.2.1) (by rw [hs_sl_len]; exact hn)
  rw [lg_entry_eq]
  rw [hs_args_tv] at hl
  exact h p l e s m _ below meth c G _ hC s.heap [] _ hP va_S.rf hl
theorem hs_Qc.mono {G : hs_G} {A : Nat → Prop} {K K' : Option Value → hs_St → Prop} (h : ∀ r τ, K r τ → K' r τ) {a : Array Value} {st t : State} {o : Outcome} (q : hs_Qc G A K a st o t) : hs_Qc G A K' a st o t := by
  obtain ⟨⟨r, τ, h1, h2, h3⟩, h4⟩ := q
  exact ⟨⟨r, τ, h1, h r τ h2, h3⟩, h4⟩
theorem hs_Ok.mono {d : hs_M} {av : List Value} {σ : hs_St} {K K' : Option Value → hs_St → Prop} (hk : hs_Ok d av σ K) (h : ∀ r τ, K r τ → K' r τ) : hs_Ok d av σ K' := by
  intro l G sz p e ha hc hkk s m args below hf happ hP hT
  obtain ⟨t, o, h1, h2, h3, h4, h5⟩ := hk l G sz p e ha hc hkk s m args below hf happ hP hT
  exact ⟨t, o, h1, h2, h3, hs_Qc.mono h h4, h5⟩
end
section
section HR
variable {d : hs_M} {pc : Nat} {lv : List (Nat × Value)} {st : List Value} {σ : hs_St} {K : Option Value → hs_St → Prop}
theorem hs_lv_at {a : Nat → Nat} {ls : Array Slot} {n : Nat} (h : lv_has ls n (lv.map (hs_tv a))) (j : Nat) {i : Nat} {v : Value} (hj : lv[j]? = some (i, v)) : ls[i]? = some (.val (hs_tr a v)) :=
  lv_at h j (by rw [List.getElem?_map, hj]; rfl)
/-- a store into the locals, which stay in order -/
def hs_put (i : Nat) (v : Value) : List (Nat × Value) → List (Nat × Value)
  | [] => [(i, v)]
  | q :: r => if q.1 + 1 = i ∧ q.2.category = 2 then hs_put i v r else if q.1 < i then q :: hs_put i v r else if q.1 = i then (i, v) :: r.filter (fun q => !(q.1 == i)) else (i, v) :: q :: r.filter (fun q => !(q.1 == i))
theorem hs_put_mem (i : Nat) (v : Value) : ∀ (l : List (Nat × Value)) (q : Nat × Value), (∀ x ∈ l, ∀ y ∈ l, x.1 + 1 = i → x.2.category = 2 → i ≤ y.1 → y.1 ≠ i → True) → q ∈ hs_put i v l → q = (i, v) ∨ (q ∈ l ∧ q.1 ≠ i)
  | [], q, _, h => by simp [hs_put] at h; exact Or.inl h
  | x :: r, q, hh, h => by
    simp only [hs_put] at h
    split at h
    · rcases hs_put_mem i v r q (fun _ _ _ _ _ _ _ _ => trivial) h with h1 | h1
      · exact Or.inl h1
      · exact Or.inr ⟨List.mem_cons_of_mem _ h1.1, h1.2⟩
    · split at h
      · rcases List.mem_cons.mp h with h1 | h1
        · subst h1; exact Or.inr ⟨List.mem_cons_self, by omega⟩
        · rcases hs_put_mem i v r q (fun _ _ _ _ _ _ _ _ => trivial) h1 with h2 | h2
          · exact Or.inl h2
          · exact Or.inr ⟨List.mem_cons_of_mem _ h2.1, h2.2⟩
      · split at h
        · rcases List.mem_cons.mp h with h1 | h1
          · exact Or.inl h1
          · have h2 := List.mem_filter.mp h1
            exact Or.inr ⟨List.mem_cons_of_mem _ h2.1, by simpa using h2.2⟩
        · rcases List.mem_cons.mp h with h1 | h1
          · exact Or.inl h1
          · rcases List.mem_cons.mp h1 with h2 | h2
            · subst h2; exact Or.inr ⟨List.mem_cons_self, by assumption⟩
            · have h3 := List.mem_filter.mp h2
              exact Or.inr ⟨List.mem_cons_of_mem _ h3.1, by simpa using h3.2⟩
/-- no long ends in place i -/
def hs_free1 (i : Nat) (l : List (Nat × Value)) : Bool := l.all (fun q => !(q.1 + 1 == i && q.2.category == 2))
def hs_free2 (i : Nat) (l : List (Nat × Value)) : Bool := l.all (fun q => !(q.1 + 1 == i && q.2.category == 2) && !(q.1 == i + 1))
theorem hs_put1 {a : Nat → Nat} {ls : Array Slot} {n i : Nat} {v : Value} (hf : hs_free1 i lv = true) (h : lv_has ls n ((i, hs_tr a v) :: (lv.map (hs_tv a)).filter (fun q => !(q.1 == i) && !(q.1 + 1 == i && q.2.category == 2)))) : lv_has ls n ((hs_put i v lv).map (hs_tv a)) := by
  refine ⟨h.1, h.2.1, fun q hq => h.2.2 q ?_⟩
  obtain ⟨x, hx, rfl⟩ := List.mem_map.mp hq
  rcases hs_put_mem i v lv x (fun _ _ _ _ _ _ _ _ => trivial) hx with e | ⟨h1, h2⟩
  · subst e; exact List.mem_cons_self
  · refine List.mem_cons_of_mem _ (List.mem_filter.mpr ⟨List.mem_map.mpr ⟨x, h1, rfl⟩, ?_⟩)
    have h3 := List.all_eq_true.mp hf x h1
    have e : (hs_tv a x).2.category = x.2.category := hs_tr_cat a x.2
    have e1 : (hs_tv a x).1 = x.1 := rfl
    rw [e, e1]
    simp only [Bool.and_eq_true]
    exact ⟨by simpa using h2, h3⟩
theorem hs_put2 {a : Nat → Nat} {ls : Array Slot} {n i : Nat} {v : Value} (hf : hs_free2 i lv = true) (h : lv_has ls n ((i, hs_tr a v) :: (lv.map (hs_tv a)).filter (fun q => !(q.1 == i) && (!(q.1 == i + 1) && !(q.1 + 1 == i && q.2.category == 2))))) : lv_has ls n ((hs_put i v lv).map (hs_tv a)) := by
  refine ⟨h.1, h.2.1, fun q hq => h.2.2 q ?_⟩
  obtain ⟨x, hx, rfl⟩ := List.mem_map.mp hq
  rcases hs_put_mem i v lv x (fun _ _ _ _ _ _ _ _ => trivial) hx with e | ⟨h1, h2⟩
  · subst e; exact List.mem_cons_self
  · refine List.mem_cons_of_mem _ (List.mem_filter.mpr ⟨List.mem_map.mpr ⟨x, h1, rfl⟩, ?_⟩)
    have h3 := List.all_eq_true.mp hf x h1
    have e : (hs_tv a x).2.category = x.2.category := hs_tr_cat a x.2
    have e1 : (hs_tv a x).1 = x.1 := rfl
    rw [e, e1]
    simp only [Bool.and_eq_true] at h3 ⊢
    exact ⟨by simpa using h2, h3.2, h3.1⟩
theorem hr_iconst {n : Int} {v : Int32} (hd : decode d.2.1 pc = .ok (.iconst n, 1)) (hv : Int32.ofInt n = v) (k : hs_Rn d (pc + 1) lv (.int v :: st) σ K) : hs_Rn d pc lv (st) σ K := fun p l e s m args below meth c G A C H locs ls hP hS hl => lv_iconst C.1 C.2.1 hd hv (k p l e s m args below meth c G A C H locs ls hP hS hl)
theorem hr_bipush {n : Int} {v : Int32} (hd : decode d.2.1 pc = .ok (.bipush n, 2)) (hv : (Int8.ofInt n).toInt32 = v) (k : hs_Rn d (pc + 2) lv (.int v :: st) σ K) : hs_Rn d pc lv (st) σ K := fun p l e s m args below meth c G A C H locs ls hP hS hl => lv_bipush C.1 C.2.1 hd hv (k p l e s m args below meth c G A C H locs ls hP hS hl)
theorem hr_sipush {n : Int} {v : Int32} (hd : decode d.2.1 pc = .ok (.sipush n, 3)) (hv : (Int16.ofInt n).toInt32 = v) (k : hs_Rn d (pc + 3) lv (.int v :: st) σ K) : hs_Rn d pc lv (st) σ K := fun p l e s m args below meth c G A C H locs ls hP hS hl => lv_sipush C.1 C.2.1 hd hv (k p l e s m args below meth c G A C H locs ls hP hS hl)
theorem hr_lconst {n : Fin 2} {v : Int64} (hd : decode d.2.1 pc = .ok (.lconst n, 1)) (hv : Int64.ofNat (n : Nat) = v) (k : hs_Rn d (pc + 1) lv (.long v :: st) σ K) : hs_Rn d pc lv (st) σ K := fun p l e s m args below meth c G A C H locs ls hP hS hl => lv_lconst C.1 C.2.1 hd hv (k p l e s m args below meth c G A C H locs ls hP hS hl)
theorem hr_iload_n {n : Fin 4} {x : Int32} (hd : decode d.2.1 pc = .ok (.iload_n n, 1)) (j : Nat) (hj : lv[j]? = some ((n : Nat), .int x)) (k : hs_Rn d (pc + 1) lv (.int x :: st) σ K) : hs_Rn d pc lv (st) σ K := fun p l e s m args below meth c G A C H locs ls hP hS hl => lv_iload_n C.1 C.2.1 hd rfl (hs_lv_at hl j hj) (k p l e s m args below meth c G A C H locs ls hP hS hl)
theorem hr_iload {i : Nat} {x : Int32} (hd : decode d.2.1 pc = .ok (.iload i, 2)) (j : Nat) (hj : lv[j]? = some (i, .int x)) (k : hs_Rn d (pc + 2) lv (.int x :: st) σ K) : hs_Rn d pc lv (st) σ K := fun p l e s m args below meth c G A C H locs ls hP hS hl => lv_iload C.1 C.2.1 hd (hs_lv_at hl j hj) (k p l e s m args below meth c G A C H locs ls hP hS hl)
theorem hr_lload_n {n : Fin 4} {x : Int64} (hd : decode d.2.1 pc = .ok (.lload_n n, 1)) (j : Nat) (hj : lv[j]? = some ((n : Nat), .long x)) (k : hs_Rn d (pc + 1) lv (.long x :: st) σ K) : hs_Rn d pc lv (st) σ K := fun p l e s m args below meth c G A C H locs ls hP hS hl => lv_lload_n C.1 C.2.1 hd rfl (hs_lv_at hl j hj) (k p l e s m args below meth c G A C H locs ls hP hS hl)
theorem hr_lload {i : Nat} {x : Int64} (hd : decode d.2.1 pc = .ok (.lload i, 2)) (j : Nat) (hj : lv[j]? = some (i, .long x)) (k : hs_Rn d (pc + 2) lv (.long x :: st) σ K) : hs_Rn d pc lv (st) σ K := fun p l e s m args below meth c G A C H locs ls hP hS hl => lv_lload C.1 C.2.1 hd (hs_lv_at hl j hj) (k p l e s m args below meth c G A C H locs ls hP hS hl)
theorem hr_aload_n {n : Fin 4} {x : Nat} (hd : decode d.2.1 pc = .ok (.aload_n n, 1)) (j : Nat) (hj : lv[j]? = some ((n : Nat), .ref x)) (k : hs_Rn d (pc + 1) lv (.ref x :: st) σ K) : hs_Rn d pc lv (st) σ K := fun p l e s m args below meth c G A C H locs ls hP hS hl => lv_aload_n C.1 C.2.1 hd rfl (hs_lv_at hl j hj) (k p l e s m args below meth c G A C H locs ls hP hS hl)
theorem hr_aload {i : Nat} {x : Nat} (hd : decode d.2.1 pc = .ok (.aload i, 2)) (j : Nat) (hj : lv[j]? = some (i, .ref x)) (k : hs_Rn d (pc + 2) lv (.ref x :: st) σ K) : hs_Rn d pc lv (st) σ K := fun p l e s m args below meth c G A C H locs ls hP hS hl => lv_aload C.1 C.2.1 hd (hs_lv_at hl j hj) (k p l e s m args below meth c G A C H locs ls hP hS hl)
theorem hr_iadd {x y : Int32} (hd : decode d.2.1 pc = .ok (.iadd, 1))  (k : hs_Rn d (pc + 1) lv (.int (x + y) :: st) σ K) : hs_Rn d pc lv (.int y :: .int x :: st) σ K := fun p l e s m args below meth c G A C H locs ls hP hS hl => lv_iadd C.1 C.2.1 hd (k p l e s m args below meth c G A C H locs ls hP hS hl)
theorem hr_isub {x y : Int32} (hd : decode d.2.1 pc = .ok (.isub, 1))  (k : hs_Rn d (pc + 1) lv (.int (x - y) :: st) σ K) : hs_Rn d pc lv (.int y :: .int x :: st) σ K := fun p l e s m args below meth c G A C H locs ls hP hS hl => lv_isub C.1 C.2.1 hd (k p l e s m args below meth c G A C H locs ls hP hS hl)
theorem hr_imul {x y : Int32} (hd : decode d.2.1 pc = .ok (.imul, 1))  (k : hs_Rn d (pc + 1) lv (.int (x * y) :: st) σ K) : hs_Rn d pc lv (.int y :: .int x :: st) σ K := fun p l e s m args below meth c G A C H locs ls hP hS hl => lv_imul C.1 C.2.1 hd (k p l e s m args below meth c G A C H locs ls hP hS hl)
theorem hr_iand {x y : Int32} (hd : decode d.2.1 pc = .ok (.iand, 1))  (k : hs_Rn d (pc + 1) lv (.int (x &&& y) :: st) σ K) : hs_Rn d pc lv (.int y :: .int x :: st) σ K := fun p l e s m args below meth c G A C H locs ls hP hS hl => lv_iand C.1 C.2.1 hd (k p l e s m args below meth c G A C H locs ls hP hS hl)
theorem hr_ior {x y : Int32} (hd : decode d.2.1 pc = .ok (.ior, 1))  (k : hs_Rn d (pc + 1) lv (.int (x ||| y) :: st) σ K) : hs_Rn d pc lv (.int y :: .int x :: st) σ K := fun p l e s m args below meth c G A C H locs ls hP hS hl => lv_ior C.1 C.2.1 hd (k p l e s m args below meth c G A C H locs ls hP hS hl)
theorem hr_ixor {x y : Int32} (hd : decode d.2.1 pc = .ok (.ixor, 1))  (k : hs_Rn d (pc + 1) lv (.int (x ^^^ y) :: st) σ K) : hs_Rn d pc lv (.int y :: .int x :: st) σ K := fun p l e s m args below meth c G A C H locs ls hP hS hl => lv_ixor C.1 C.2.1 hd (k p l e s m args below meth c G A C H locs ls hP hS hl)
theorem hr_ishl {x y : Int32} (hd : decode d.2.1 pc = .ok (.ishl, 1))  (k : hs_Rn d (pc + 1) lv (.int (x <<< (y &&& 31)) :: st) σ K) : hs_Rn d pc lv (.int y :: .int x :: st) σ K := fun p l e s m args below meth c G A C H locs ls hP hS hl => lv_ishl C.1 C.2.1 hd (k p l e s m args below meth c G A C H locs ls hP hS hl)
theorem hr_ishr {x y : Int32} (hd : decode d.2.1 pc = .ok (.ishr, 1))  (k : hs_Rn d (pc + 1) lv (.int (x >>> (y &&& 31)) :: st) σ K) : hs_Rn d pc lv (.int y :: .int x :: st) σ K := fun p l e s m args below meth c G A C H locs ls hP hS hl => lv_ishr C.1 C.2.1 hd (k p l e s m args below meth c G A C H locs ls hP hS hl)
theorem hr_idiv {x y : Int32} (hd : decode d.2.1 pc = .ok (.idiv, 1)) (hne : ¬ y = 0) (k : hs_Rn d (pc + 1) lv (.int (x / y) :: st) σ K) : hs_Rn d pc lv (.int y :: .int x :: st) σ K := fun p l e s m args below meth c G A C H locs ls hP hS hl => lv_idiv C.1 C.2.1 hd hne (k p l e s m args below meth c G A C H locs ls hP hS hl)
theorem hr_irem {x y : Int32} (hd : decode d.2.1 pc = .ok (.irem, 1)) (hne : ¬ y = 0) (k : hs_Rn d (pc + 1) lv (.int (x - x / y * y) :: st) σ K) : hs_Rn d pc lv (.int y :: .int x :: st) σ K := fun p l e s m args below meth c G A C H locs ls hP hS hl => lv_irem C.1 C.2.1 hd hne (k p l e s m args below meth c G A C H locs ls hP hS hl)
theorem hr_ladd {x y : Int64} (hd : decode d.2.1 pc = .ok (.ladd, 1))  (k : hs_Rn d (pc + 1) lv (.long (x + y) :: st) σ K) : hs_Rn d pc lv (.long y :: .long x :: st) σ K := fun p l e s m args below meth c G A C H locs ls hP hS hl => lv_ladd C.1 C.2.1 hd (k p l e s m args below meth c G A C H locs ls hP hS hl)
theorem hr_lmul {x y : Int64} (hd : decode d.2.1 pc = .ok (.lmul, 1))  (k : hs_Rn d (pc + 1) lv (.long (x * y) :: st) σ K) : hs_Rn d pc lv (.long y :: .long x :: st) σ K := fun p l e s m args below meth c G A C H locs ls hP hS hl => lv_lmul C.1 C.2.1 hd (k p l e s m args below meth c G A C H locs ls hP hS hl)
theorem hr_lsub {x y : Int64} (hd : decode d.2.1 pc = .ok (.lsub, 1))  (k : hs_Rn d (pc + 1) lv (.long (x - y) :: st) σ K) : hs_Rn d pc lv (.long y :: .long x :: st) σ K := fun p l e s m args below meth c G A C H locs ls hP hS hl => lv_lsub C.1 C.2.1 hd (k p l e s m args below meth c G A C H locs ls hP hS hl)
theorem hr_ldiv {x y : Int64} (hd : decode d.2.1 pc = .ok (.ldiv, 1)) (hne : ¬ y = 0) (k : hs_Rn d (pc + 1) lv (.long (x / y) :: st) σ K) : hs_Rn d pc lv (.long y :: .long x :: st) σ K := fun p l e s m args below meth c G A C H locs ls hP hS hl => lv_ldiv C.1 C.2.1 hd hne (k p l e s m args below meth c G A C H locs ls hP hS hl)
theorem hr_lrem {x y : Int64} (hd : decode d.2.1 pc = .ok (.lrem, 1)) (hne : ¬ y = 0) (k : hs_Rn d (pc + 1) lv (.long (x - x / y * y) :: st) σ K) : hs_Rn d pc lv (.long y :: .long x :: st) σ K := fun p l e s m args below meth c G A C H locs ls hP hS hl => lv_lrem C.1 C.2.1 hd hne (k p l e s m args below meth c G A C H locs ls hP hS hl)
theorem hr_iushr {x y : Int32} (hd : decode d.2.1 pc = .ok (.iushr, 1))  (k : hs_Rn d (pc + 1) lv (.int ((x.toUInt32 >>> (y.toUInt32 &&& Int32.toUInt32 31)).toInt32) :: st) σ K) : hs_Rn d pc lv (.int y :: .int x :: st) σ K := fun p l e s m args below meth c G A C H locs ls hP hS hl => lv_iushr C.1 C.2.1 hd rfl (k p l e s m args below meth c G A C H locs ls hP hS hl)
theorem hr_i2l {x : Int32} (hd : decode d.2.1 pc = .ok (.i2l, 1))  (k : hs_Rn d (pc + 1) lv (.long x.toInt64 :: st) σ K) : hs_Rn d pc lv (.int x :: st) σ K := fun p l e s m args below meth c G A C H locs ls hP hS hl => lv_i2l C.1 C.2.1 hd rfl (k p l e s m args below meth c G A C H locs ls hP hS hl)
theorem hr_i2b {x : Int32} (hd : decode d.2.1 pc = .ok (.i2b, 1))  (k : hs_Rn d (pc + 1) lv (.int x.toInt8.toInt32 :: st) σ K) : hs_Rn d pc lv (.int x :: st) σ K := fun p l e s m args below meth c G A C H locs ls hP hS hl => lv_i2b C.1 C.2.1 hd rfl (k p l e s m args below meth c G A C H locs ls hP hS hl)
theorem hr_i2s {x : Int32} (hd : decode d.2.1 pc = .ok (.i2s, 1))  (k : hs_Rn d (pc + 1) lv (.int x.toInt16.toInt32 :: st) σ K) : hs_Rn d pc lv (.int x :: st) σ K := fun p l e s m args below meth c G A C H locs ls hP hS hl => lv_i2s C.1 C.2.1 hd rfl (k p l e s m args below meth c G A C H locs ls hP hS hl)
theorem hr_i2c {x : Int32} (hd : decode d.2.1 pc = .ok (.i2c, 1))  (k : hs_Rn d (pc + 1) lv (.int (x.toUInt32 % 65536).toInt32 :: st) σ K) : hs_Rn d pc lv (.int x :: st) σ K := fun p l e s m args below meth c G A C H locs ls hP hS hl => lv_i2c C.1 C.2.1 hd rfl (k p l e s m args below meth c G A C H locs ls hP hS hl)
theorem hr_dup {v : Value} (hd : decode d.2.1 pc = .ok (.dup, 1)) (hv : v.category = 1) (k : hs_Rn d (pc + 1) lv (v :: v :: st) σ K) : hs_Rn d pc lv (v :: st) σ K := fun p l e s m args below meth c G A C H locs ls hP hS hl => lv_dup C.1 C.2.1 hd ((hs_tr_cat _ v).trans hv) (k p l e s m args below meth c G A C H locs ls hP hS hl)
theorem hr_pop {v : Value} (hd : decode d.2.1 pc = .ok (.pop, 1)) (hv : v.category = 1) (k : hs_Rn d (pc + 1) lv (st) σ K) : hs_Rn d pc lv (v :: st) σ K := fun p l e s m args below meth c G A C H locs ls hP hS hl => lv_pop C.1 C.2.1 hd ((hs_tr_cat _ v).trans hv) (k p l e s m args below meth c G A C H locs ls hP hS hl)
theorem hr_dup2 {v w : Value} (hd : decode d.2.1 pc = .ok (.dup2, 1)) (hv : v.category = 1) (hw : w.category = 1) (k : hs_Rn d (pc + 1) lv (v :: w :: v :: w :: st) σ K) : hs_Rn d pc lv (v :: w :: st) σ K := fun p l e s m args below meth c G A C H locs ls hP hS hl => lv_dup2_11 C.1 C.2.1 hd ((hs_tr_cat _ v).trans hv) ((hs_tr_cat _ w).trans hw) (k p l e s m args below meth c G A C H locs ls hP hS hl)
theorem hr_lcmp {x y : Int64} (hd : decode d.2.1 pc = .ok (.lcmp, 1))  (k : hs_Rn d (pc + 1) lv (.int (lg_cmp x y) :: st) σ K) : hs_Rn d pc lv (.long y :: .long x :: st) σ K := fun p l e s m args below meth c G A C H locs ls hP hS hl => W.lcmp C.1 C.2.1 hd (k p l e s m args below meth c G A C H locs ls hP hS hl)
theorem hr_istore_n {n : Fin 4} {x : Int32} {lv1 : List (Nat × Value)} (hd : decode d.2.1 pc = .ok (.istore_n n, 1)) (hn : (n : Nat) < d.2.2.1) (hf : hs_free1 (n : Nat) lv = true) (he : hs_put (n : Nat) (.int x) lv = lv1) (k : hs_Rn d (pc + 1) lv1 st σ K) : hs_Rn d pc lv (.int x :: st) σ K := by
  subst he
  exact fun p l e s m args below meth c G A C H locs ls hP hS hl => lv_istore_n (lv' := _) C.1 C.2.1 hd rfl hl hn rfl (fun ls hl => k p l e s m args below meth c G A C H locs ls hP hS (hs_put1 (v := .int x) hf hl))
theorem hr_istore {i : Nat} {x : Int32} {lv1 : List (Nat × Value)} (hd : decode d.2.1 pc = .ok (.istore i, 2)) (hn : i < d.2.2.1) (hf : hs_free1 i lv = true) (he : hs_put i (.int x) lv = lv1) (k : hs_Rn d (pc + 2) lv1 st σ K) : hs_Rn d pc lv (.int x :: st) σ K := by
  subst he
  exact fun p l e s m args below meth c G A C H locs ls hP hS hl => lv_istore (lv' := _) C.1 C.2.1 hd  hl hn rfl (fun ls hl => k p l e s m args below meth c G A C H locs ls hP hS (hs_put1 (v := .int x) hf hl))
theorem hr_lstore_n {n : Fin 4} {x : Int64} {lv1 : List (Nat × Value)} (hd : decode d.2.1 pc = .ok (.lstore_n n, 1)) (hn : (n : Nat) + 1 < d.2.2.1) (hf : hs_free2 (n : Nat) lv = true) (he : hs_put (n : Nat) (.long x) lv = lv1) (k : hs_Rn d (pc + 1) lv1 st σ K) : hs_Rn d pc lv (.long x :: st) σ K := by
  subst he
  exact fun p l e s m args below meth c G A C H locs ls hP hS hl => lv_lstore_n (lv' := _) C.1 C.2.1 hd rfl hl hn rfl (fun ls hl => k p l e s m args below meth c G A C H locs ls hP hS (hs_put2 (v := .long x) hf hl))
theorem hr_lstore {i : Nat} {x : Int64} {lv1 : List (Nat × Value)} (hd : decode d.2.1 pc = .ok (.lstore i, 2)) (hn : i + 1 < d.2.2.1) (hf : hs_free2 i lv = true) (he : hs_put i (.long x) lv = lv1) (k : hs_Rn d (pc + 2) lv1 st σ K) : hs_Rn d pc lv (.long x :: st) σ K := by
  subst he
  exact fun p l e s m args below meth c G A C H locs ls hP hS hl => lv_lstore (lv' := _) C.1 C.2.1 hd  hl hn rfl (fun ls hl => k p l e s m args below meth c G A C H locs ls hP hS (hs_put2 (v := .long x) hf hl))
theorem hr_iinc {i : Nat} {n : Int} {x v : Int32} {lv1 : List (Nat × Value)} (hd : decode d.2.1 pc = .ok (.iinc i n, 3)) (j : Nat) (hj : lv[j]? = some (i, .int x)) (hv : x + Int32.ofInt n = v) (hn : i < d.2.2.1) (hf : hs_free1 i lv = true) (he : hs_put i (.int v) lv = lv1) (k : hs_Rn d (pc + 3) lv1 st σ K) : hs_Rn d pc lv st σ K := by
  subst he
  exact fun p l e s m args below meth c G A C H locs ls hP hS hl => lv_iinc (k := j) (lv' := _) C.1 C.2.1 hd hl (by rw [List.getElem?_map, hj]; rfl) hv hn rfl (fun ls hl => k p l e s m args below meth c G A C H locs ls hP hS (hs_put1 (v := .int v) hf hl))
theorem hr_if_eq {x : Int32} {off : Int} {tgt : Nat} (hd : decode d.2.1 pc = .ok (.ifCond .eq off, 3)) (ht : (pc : Int) + off = (tgt : Int)) (kt : x = 0 → hs_Rn d tgt lv st σ K) (kf : ¬ x = 0 → hs_Rn d (pc + 3) lv st σ K) : hs_Rn d pc lv (.int x :: st) σ K := fun p l e s m args below meth c G A C H locs ls hP hS hl => lv_if_eq C.1 C.2.1 hd ht (fun h => kt h p l e s m args below meth c G A C H locs ls hP hS hl) (fun h => kf h p l e s m args below meth c G A C H locs ls hP hS hl)
theorem hr_icmp_eq {x y : Int32} {off : Int} {tgt : Nat} (hd : decode d.2.1 pc = .ok (.if_icmp .eq off, 3)) (ht : (pc : Int) + off = (tgt : Int)) (kt : x = y → hs_Rn d tgt lv st σ K) (kf : ¬ x = y → hs_Rn d (pc + 3) lv st σ K) : hs_Rn d pc lv (.int y :: .int x :: st) σ K := fun p l e s m args below meth c G A C H locs ls hP hS hl => lv_icmp_eq C.1 C.2.1 hd ht (fun h => kt h p l e s m args below meth c G A C H locs ls hP hS hl) (fun h => kf h p l e s m args below meth c G A C H locs ls hP hS hl)
theorem hr_if_ne {x : Int32} {off : Int} {tgt : Nat} (hd : decode d.2.1 pc = .ok (.ifCond .ne off, 3)) (ht : (pc : Int) + off = (tgt : Int)) (kt : ¬ x = 0 → hs_Rn d tgt lv st σ K) (kf : x = 0 → hs_Rn d (pc + 3) lv st σ K) : hs_Rn d pc lv (.int x :: st) σ K := fun p l e s m args below meth c G A C H locs ls hP hS hl => lv_if_ne C.1 C.2.1 hd ht (fun h => kt h p l e s m args below meth c G A C H locs ls hP hS hl) (fun h => kf h p l e s m args below meth c G A C H locs ls hP hS hl)
theorem hr_icmp_ne {x y : Int32} {off : Int} {tgt : Nat} (hd : decode d.2.1 pc = .ok (.if_icmp .ne off, 3)) (ht : (pc : Int) + off = (tgt : Int)) (kt : ¬ x = y → hs_Rn d tgt lv st σ K) (kf : x = y → hs_Rn d (pc + 3) lv st σ K) : hs_Rn d pc lv (.int y :: .int x :: st) σ K := fun p l e s m args below meth c G A C H locs ls hP hS hl => lv_icmp_ne C.1 C.2.1 hd ht (fun h => kt h p l e s m args below meth c G A C H locs ls hP hS hl) (fun h => kf h p l e s m args below meth c G A C H locs ls hP hS hl)
theorem hr_if_lt {x : Int32} {off : Int} {tgt : Nat} (hd : decode d.2.1 pc = .ok (.ifCond .lt off, 3)) (ht : (pc : Int) + off = (tgt : Int)) (kt : x < 0 → hs_Rn d tgt lv st σ K) (kf : ¬ x < 0 → hs_Rn d (pc + 3) lv st σ K) : hs_Rn d pc lv (.int x :: st) σ K := fun p l e s m args below meth c G A C H locs ls hP hS hl => lv_if_lt C.1 C.2.1 hd ht (fun h => kt h p l e s m args below meth c G A C H locs ls hP hS hl) (fun h => kf h p l e s m args below meth c G A C H locs ls hP hS hl)
theorem hr_icmp_lt {x y : Int32} {off : Int} {tgt : Nat} (hd : decode d.2.1 pc = .ok (.if_icmp .lt off, 3)) (ht : (pc : Int) + off = (tgt : Int)) (kt : x < y → hs_Rn d tgt lv st σ K) (kf : ¬ x < y → hs_Rn d (pc + 3) lv st σ K) : hs_Rn d pc lv (.int y :: .int x :: st) σ K := fun p l e s m args below meth c G A C H locs ls hP hS hl => lv_icmp_lt C.1 C.2.1 hd ht (fun h => kt h p l e s m args below meth c G A C H locs ls hP hS hl) (fun h => kf h p l e s m args below meth c G A C H locs ls hP hS hl)
theorem hr_if_ge {x : Int32} {off : Int} {tgt : Nat} (hd : decode d.2.1 pc = .ok (.ifCond .ge off, 3)) (ht : (pc : Int) + off = (tgt : Int)) (kt : 0 ≤ x → hs_Rn d tgt lv st σ K) (kf : ¬ 0 ≤ x → hs_Rn d (pc + 3) lv st σ K) : hs_Rn d pc lv (.int x :: st) σ K := fun p l e s m args below meth c G A C H locs ls hP hS hl => lv_if_ge C.1 C.2.1 hd ht (fun h => kt h p l e s m args below meth c G A C H locs ls hP hS hl) (fun h => kf h p l e s m args below meth c G A C H locs ls hP hS hl)
theorem hr_icmp_ge {x y : Int32} {off : Int} {tgt : Nat} (hd : decode d.2.1 pc = .ok (.if_icmp .ge off, 3)) (ht : (pc : Int) + off = (tgt : Int)) (kt : y ≤ x → hs_Rn d tgt lv st σ K) (kf : ¬ y ≤ x → hs_Rn d (pc + 3) lv st σ K) : hs_Rn d pc lv (.int y :: .int x :: st) σ K := fun p l e s m args below meth c G A C H locs ls hP hS hl => lv_icmp_ge C.1 C.2.1 hd ht (fun h => kt h p l e s m args below meth c G A C H locs ls hP hS hl) (fun h => kf h p l e s m args below meth c G A C H locs ls hP hS hl)
theorem hr_if_gt {x : Int32} {off : Int} {tgt : Nat} (hd : decode d.2.1 pc = .ok (.ifCond .gt off, 3)) (ht : (pc : Int) + off = (tgt : Int)) (kt : 0 < x → hs_Rn d tgt lv st σ K) (kf : ¬ 0 < x → hs_Rn d (pc + 3) lv st σ K) : hs_Rn d pc lv (.int x :: st) σ K := fun p l e s m args below meth c G A C H locs ls hP hS hl => lv_if_gt C.1 C.2.1 hd ht (fun h => kt h p l e s m args below meth c G A C H locs ls hP hS hl) (fun h => kf h p l e s m args below meth c G A C H locs ls hP hS hl)
theorem hr_icmp_gt {x y : Int32} {off : Int} {tgt : Nat} (hd : decode d.2.1 pc = .ok (.if_icmp .gt off, 3)) (ht : (pc : Int) + off = (tgt : Int)) (kt : y < x → hs_Rn d tgt lv st σ K) (kf : ¬ y < x → hs_Rn d (pc + 3) lv st σ K) : hs_Rn d pc lv (.int y :: .int x :: st) σ K := fun p l e s m args below meth c G A C H locs ls hP hS hl => lv_icmp_gt C.1 C.2.1 hd ht (fun h => kt h p l e s m args below meth c G A C H locs ls hP hS hl) (fun h => kf h p l e s m args below meth c G A C H locs ls hP hS hl)
theorem hr_if_le {x : Int32} {off : Int} {tgt : Nat} (hd : decode d.2.1 pc = .ok (.ifCond .le off, 3)) (ht : (pc : Int) + off = (tgt : Int)) (kt : x ≤ 0 → hs_Rn d tgt lv st σ K) (kf : ¬ x ≤ 0 → hs_Rn d (pc + 3) lv st σ K) : hs_Rn d pc lv (.int x :: st) σ K := fun p l e s m args below meth c G A C H locs ls hP hS hl => lv_if_le C.1 C.2.1 hd ht (fun h => kt h p l e s m args below meth c G A C H locs ls hP hS hl) (fun h => kf h p l e s m args below meth c G A C H locs ls hP hS hl)
theorem hr_icmp_le {x y : Int32} {off : Int} {tgt : Nat} (hd : decode d.2.1 pc = .ok (.if_icmp .le off, 3)) (ht : (pc : Int) + off = (tgt : Int)) (kt : x ≤ y → hs_Rn d tgt lv st σ K) (kf : ¬ x ≤ y → hs_Rn d (pc + 3) lv st σ K) : hs_Rn d pc lv (.int y :: .int x :: st) σ K := fun p l e s m args below meth c G A C H locs ls hP hS hl => lv_icmp_le C.1 C.2.1 hd ht (fun h => kt h p l e s m args below meth c G A C H locs ls hP hS hl) (fun h => kf h p l e s m args below meth c G A C H locs ls hP hS hl)
theorem hr_goto {off : Int} {tgt : Nat} (hd : decode d.2.1 pc = .ok (.goto off, 3)) (ht : (pc : Int) + off = (tgt : Int)) (k : hs_Rn d tgt lv st σ K) : hs_Rn d pc lv st σ K := fun p l e s m args below meth c G A C H locs ls hP hS hl => lv_goto C.1 C.2.1 hd ht (k p l e s m args below meth c G A C H locs ls hP hS hl)
def hs_b (b : Bool) : Int32 := if b then 1 else 0
theorem hs_b0 {b : Bool} : hs_b b = 0 ↔ b = false := by cases b <;> decide
theorem hr_ifb_eq {b : Bool} {off : Int} {tgt : Nat} (hd : decode d.2.1 pc = .ok (.ifCond .eq off, 3)) (ht : (pc : Int) + off = (tgt : Int)) (kt : b = false → hs_Rn d tgt lv st σ K) (kf : b = true → hs_Rn d (pc + 3) lv st σ K) : hs_Rn d pc lv (.int (hs_b b) :: st) σ K :=
  hr_if_eq hd ht (fun h => kt (hs_b0.mp h)) (fun h => kf (by cases b; exact absurd rfl h; rfl))
theorem hr_ifb_ne {b : Bool} {off : Int} {tgt : Nat} (hd : decode d.2.1 pc = .ok (.ifCond .ne off, 3)) (ht : (pc : Int) + off = (tgt : Int)) (kt : b = true → hs_Rn d tgt lv st σ K) (kf : b = false → hs_Rn d (pc + 3) lv st σ K) : hs_Rn d pc lv (.int (hs_b b) :: st) σ K :=
  hr_if_ne hd ht (fun h => kt (by cases b; exact absurd rfl h; rfl)) (fun h => kf (by cases b; rfl; exact absurd h (by decide)))
theorem hr_lif_lt {x y : Int64} {off : Int} {tgt : Nat} (h1 : decode d.2.1 pc = .ok (.lcmp, 1)) (hd : decode d.2.1 (pc + 1) = .ok (.ifCond .lt off, 3)) (ht : ((pc + 1 : Nat) : Int) + off = (tgt : Int)) (kt : x < y → hs_Rn d tgt lv st σ K) (kf : ¬ (x < y) → hs_Rn d (pc + 1 + 3) lv st σ K) : hs_Rn d pc lv (.long y :: .long x :: st) σ K := hr_lcmp h1 (hr_if_lt hd ht (fun h => kt ((lg_cmp_lt x y).mp h)) (fun h => kf (fun g => h ((lg_cmp_lt x y).mpr g))))
theorem hr_lif_ge {x y : Int64} {off : Int} {tgt : Nat} (h1 : decode d.2.1 pc = .ok (.lcmp, 1)) (hd : decode d.2.1 (pc + 1) = .ok (.ifCond .ge off, 3)) (ht : ((pc + 1 : Nat) : Int) + off = (tgt : Int)) (kt : y ≤ x → hs_Rn d tgt lv st σ K) (kf : ¬ (y ≤ x) → hs_Rn d (pc + 1 + 3) lv st σ K) : hs_Rn d pc lv (.long y :: .long x :: st) σ K := hr_lcmp h1 (hr_if_ge hd ht (fun h => kt ((lg_cmp_ge x y).mp h)) (fun h => kf (fun g => h ((lg_cmp_ge x y).mpr g))))
theorem hr_lif_gt {x y : Int64} {off : Int} {tgt : Nat} (h1 : decode d.2.1 pc = .ok (.lcmp, 1)) (hd : decode d.2.1 (pc + 1) = .ok (.ifCond .gt off, 3)) (ht : ((pc + 1 : Nat) : Int) + off = (tgt : Int)) (kt : y < x → hs_Rn d tgt lv st σ K) (kf : ¬ (y < x) → hs_Rn d (pc + 1 + 3) lv st σ K) : hs_Rn d pc lv (.long y :: .long x :: st) σ K := hr_lcmp h1 (hr_if_gt hd ht (fun h => kt ((lg_cmp_gt x y).mp h)) (fun h => kf (fun g => h ((lg_cmp_gt x y).mpr g))))
theorem hr_lif_le {x y : Int64} {off : Int} {tgt : Nat} (h1 : decode d.2.1 pc = .ok (.lcmp, 1)) (hd : decode d.2.1 (pc + 1) = .ok (.ifCond .le off, 3)) (ht : ((pc + 1 : Nat) : Int) + off = (tgt : Int)) (kt : x ≤ y → hs_Rn d tgt lv st σ K) (kf : ¬ (x ≤ y) → hs_Rn d (pc + 1 + 3) lv st σ K) : hs_Rn d pc lv (.long y :: .long x :: st) σ K := hr_lcmp h1 (hr_if_le hd ht (fun h => kt ((lg_cmp_le x y).mp h)) (fun h => kf (fun g => h ((lg_cmp_le x y).mpr g))))
theorem hr_lif_eq {x y : Int64} {off : Int} {tgt : Nat} (h1 : decode d.2.1 pc = .ok (.lcmp, 1)) (hd : decode d.2.1 (pc + 1) = .ok (.ifCond .eq off, 3)) (ht : ((pc + 1 : Nat) : Int) + off = (tgt : Int)) (kt : x = y → hs_Rn d tgt lv st σ K) (kf : ¬ (x = y) → hs_Rn d (pc + 1 + 3) lv st σ K) : hs_Rn d pc lv (.long y :: .long x :: st) σ K := hr_lcmp h1 (hr_if_eq hd ht (fun h => kt ((lg_cmp_eq x y).mp h)) (fun h => kf (fun g => h ((lg_cmp_eq x y).mpr g))))
theorem hr_lif_ne {x y : Int64} {off : Int} {tgt : Nat} (h1 : decode d.2.1 pc = .ok (.lcmp, 1)) (hd : decode d.2.1 (pc + 1) = .ok (.ifCond .ne off, 3)) (ht : ((pc + 1 : Nat) : Int) + off = (tgt : Int)) (kt : ¬ x = y → hs_Rn d tgt lv st σ K) (kf : x = y → hs_Rn d (pc + 1 + 3) lv st σ K) : hs_Rn d pc lv (.long y :: .long x :: st) σ K := hr_lcmp h1 (hr_if_ne hd ht (fun h => kt (fun g => h ((lg_cmp_eq x y).mpr g))) (fun h => kf ((lg_cmp_eq x y).mp (Classical.byContradiction fun g => by first | exact g h | exact h g))))
end HR
end
section
section HR2
variable {d : hs_M} {pc : Nat} {lv : List (Nat × Value)} {st : List Value} {σ : hs_St} {K : Option Value → hs_St → Prop}
theorem hs_u {p : Program} {s : State} {m : MethodId} {args : Array Value} {meth : Method} {c : Code} {G : hs_G} {A : Nat → Prop} (C : hs_Cx d p s m args meth c G A) {w : Cond} (h : w ∈ hs_U) : w.before args s = true :=
  C.2.2.2.2.2.1 w (List.mem_cons_of_mem _ h)
/-- a field's link: own's entry idx names slot j of class number ci -/
def hs_FL (own : String) (idx ci j : Nat) : Prop := ∃ (C : String) (T : u_T) (N : Nat) (ty : Nat → FieldType), vwCl[ci]? = some (C, T, N) ∧ (∀ w ∈ u_ws C T N, w ∈ hs_U) ∧ j < N ∧ Cond.fieldLink own idx C (T j).2.1 (T j).2.2.1 ∈ hs_U ∧ (T j).1 = C ∧ (∀ k, k < N → parseFieldDescriptor (T k).2.2.1 = some (ty k)) ∧ ∀ a, a < N → ∀ b, b < N → a ≠ b → (T a).2.1 ≠ (T b).2.1
/-- a field that may be written: not final, of the type -/
def hs_FW (ci j : Nat) (ty : FieldType) : Prop := ∀ (C : String) (T : u_T) (N : Nat), vwCl[ci]? = some (C, T, N) → (T j).2.2.2 = false ∧ parseFieldDescriptor (T j).2.2.1 = some ty
/-- cell k is an object of class number ci, its slot j holds x -/
def hs_FX (k ci j : Nat) (x : Option (Option Nat)) : Prop := ∃ fd, hs_shape[k]? = some (.inr (ci, fd)) ∧ fd[j]? = some x
/-- cell k is an array of kind t and length n -/
def hs_AX (k t n : Nat) : Prop := hs_shape[k]? = some (.inl (t, n))
def hs_fm (σ : hs_St) (k j : Nat) : Option (Option Nat) → Value
  | none => .int (σ.1 k j)
  | some none => .long (σ.2 j)
  | some (some r) => .ref r
theorem hs_fm_tr (G : hs_G) (σ : hs_St) (k j : Nat) (x : Option (Option Nat)) : hs_tr G.2.2.1 (hs_fm σ k j x) = hs_fv G σ k j x := by
  cases x with
  | none => rfl
  | some y => cases y <;> rfl
theorem hr_get {idx ci j k : Nat} {x : Option (Option Nat)} (hd : decode d.2.1 pc = .ok (.getfield idx, 3)) (hL : hs_FL d.1.cls idx ci j) (hX : hs_FX k ci j x) (kk : hs_Rn d (pc + 3) lv (hs_fm σ k j x :: st) σ K) : hs_Rn d pc lv (.ref k :: st) σ K := by
  intro p l e s m args below meth c G A C H locs ls hP hS hl
  obtain ⟨Cn, T, N, ty, hc, hin, hj, hlink, hT, -, -⟩ := hL
  obtain ⟨fd, hk, hx⟩ := hX
  have hu : ∀ w ∈ hs_U, w.before args s = true := fun w h => hs_u C h
  refine va_get (D := G.1) (cl := vwCl) (ci := ci) (v := hs_fv G σ k j x) (C := Cn) (T := T) (N := N) (ref := Cn) C.1 C.2.1 hu hin C.2.2.2.2.1 C.2.2.2.2.2.2.2.1 hP k (fs := hs_fs G σ k fd) (hs_enc_at hk) hc j hj (hu _ hlink) (by rw [hT]; exact fun _ h => h) (hs_fs_at hx) hd ?_
  rw [← hs_fm_tr]
  exact kk p l e s m args below meth c G A C H locs ls hP hS hl
theorem hr_put {idx ci j k : Nat} {v : Int32} (hd : decode d.2.1 pc = .ok (.putfield idx, 3)) (hL : hs_FL d.1.cls idx ci j) (hX : hs_FX k ci j none) (hW : hs_FW ci j .int) (kk : hs_Rn d (pc + 3) lv st (hs_w σ k j v) K) : hs_Rn d pc lv (.int v :: .ref k :: st) σ K := by
  intro p l e s m args below meth c G A C H locs ls hP hS hl
  obtain ⟨Cn, T, N, ty, hc, hin, hj, hlink, hT, hty, hnm⟩ := hL
  obtain ⟨fd, hk, hx⟩ := hX
  have hu : ∀ w ∈ hs_U, w.before args s = true := fun w h => hs_u C h
  refine va_put (D := G.1) (cl := vwCl) (ci := ci) (v := .int v) (ty := .int) (C := Cn) (T := T) (N := N) (ref := Cn) C.1 C.2.1 hu hin ty hty hnm C.2.2.2.2.1 C.2.2.2.2.2.2.2.1 hP (C.2.2.2.2.2.2.2.2.2.2.2 σ) hS k (fs := hs_fs G σ k fd) (hs_enc_at hk) hc j hj (hu _ hlink) (by rw [hT]; exact fun _ h => h) (hW _ _ _ hc).1 (hW _ _ _ hc).2 rfl rfl ?_ hd (fun H1 locs1 hP1 hD1 hS1 => ?_)
  · exact (List.getElem?_eq_some_iff.mp (hs_fs_at (G := G) (σ := σ) (k := k) hx)).1
  · rw [hs_enc_w hk hx] at hP1
    exact kk p l e s m args below meth c G A C H1 locs1 ls hP1 hS1 hl
theorem hr_putl {idx ci j : Nat} {v : Int64} (hd : decode d.2.1 pc = .ok (.putfield idx, 3)) (hL : hs_FL d.1.cls idx ci j) (hX : hs_FX 63 ci j (some none)) (hW : hs_FW ci j .long) (kk : hs_Rn d (pc + 3) lv st (hs_wl σ j v) K) : hs_Rn d pc lv (.long v :: .ref 63 :: st) σ K := by
  intro p l e s m args below meth c G A C H locs ls hP hS hl
  obtain ⟨Cn, T, N, ty, hc, hin, hj, hlink, hT, hty, hnm⟩ := hL
  obtain ⟨fd, hk, hx⟩ := hX
  have hu : ∀ w ∈ hs_U, w.before args s = true := fun w h => hs_u C h
  refine va_put (D := G.1) (cl := vwCl) (ci := ci) (v := .long v) (ty := .long) (C := Cn) (T := T) (N := N) (ref := Cn) C.1 C.2.1 hu hin ty hty hnm C.2.2.2.2.1 C.2.2.2.2.2.2.2.1 hP (C.2.2.2.2.2.2.2.2.2.2.2 σ) hS 63 (fs := hs_fs G σ 63 fd) (hs_enc_at hk) hc j hj (hu _ hlink) (by rw [hT]; exact fun _ h => h) (hW _ _ _ hc).1 (hW _ _ _ hc).2 rfl rfl ?_ hd (fun H1 locs1 hP1 hD1 hS1 => ?_)
  · exact (List.getElem?_eq_some_iff.mp (hs_fs_at (G := G) (σ := σ) (k := 63) hx)).1
  · rw [hs_enc_wl hk hx] at hP1
    exact kk p l e s m args below meth c G A C H1 locs1 ls hP1 hS1 hl
theorem hs_enc_arr {G : hs_G} {σ : hs_St} {k t n : Nat} (h : hs_AX k t n) (ht : t ≠ 2) : (hs_enc G σ)[k]? = some (G.2.2.1 k, .inl (G.2.1 t, n, .inl (σ.1 k))) := by
  rw [hs_enc_at h]
  simp only [hs_cell, if_neg ht]
theorem hr_iald {k n : Nat} {i : Int32} (hd : decode d.2.1 pc = .ok (.iaload, 1)) (hX : hs_AX k 0 n) (hin : vp_in i n) (kk : hs_Rn d (pc + 1) lv (.int (σ.1 k i.toNatClampNeg) :: st) σ K) : hs_Rn d pc lv (.int i :: .ref k :: st) σ K :=
  fun p l e s m args below meth c G A C H locs ls hP hS hl => va_iald C.1 C.2.1 C.2.2.2.2.2.2.2.1 hP k 0 (hs_enc_arr hX (by decide)) rfl hin hd (kk p l e s m args below meth c G A C H locs ls hP hS hl)
theorem hr_zald {k n : Nat} {i : Int32} (hd : decode d.2.1 pc = .ok (.baload, 1)) (hX : hs_AX k 1 n) (hin : vp_in i n) (kk : hs_Rn d (pc + 1) lv (.int (σ.1 k i.toNatClampNeg) :: st) σ K) : hs_Rn d pc lv (.int i :: .ref k :: st) σ K :=
  fun p l e s m args below meth c G A C H locs ls hP hS hl => va_zald C.1 C.2.1 C.2.2.2.2.2.2.2.1 hP k 1 (hs_enc_arr hX (by decide)) rfl hin hd (kk p l e s m args below meth c G A C H locs ls hP hS hl)
theorem hr_iast {k n : Nat} {i x : Int32} (hd : decode d.2.1 pc = .ok (.iastore, 1)) (hX : hs_AX k 0 n) (hin : vp_in i n) (kk : hs_Rn d (pc + 1) lv st (hs_w σ k i.toNatClampNeg x) K) : hs_Rn d pc lv (.int x :: .int i :: .ref k :: st) σ K := by
  intro p l e s m args below meth c G A C H locs ls hP hS hl
  refine va_iast C.1 C.2.1 C.2.2.2.2.2.2.2.1 hP (C.2.2.2.2.2.2.2.2.2.2.2 σ) hS k 0 (hs_enc_arr hX (by decide)) rfl hin hd (fun H1 locs1 hP1 hD1 hS1 => ?_)
  rw [hs_enc_ua hX (by decide)] at hP1
  exact kk p l e s m args below meth c G A C H1 locs1 ls hP1 hS1 hl
theorem hr_zast {k n : Nat} {i x : Int32} (hd : decode d.2.1 pc = .ok (.bastore, 1)) (hX : hs_AX k 1 n) (hx : vp_nar .boolean x = x) (hin : vp_in i n) (kk : hs_Rn d (pc + 1) lv st (hs_w σ k i.toNatClampNeg x) K) : hs_Rn d pc lv (.int x :: .int i :: .ref k :: st) σ K := by
  intro p l e s m args below meth c G A C H locs ls hP hS hl
  refine va_zast C.1 C.2.1 C.2.2.2.2.2.2.2.1 hP (C.2.2.2.2.2.2.2.2.2.2.2 σ) hS k 1 (hs_enc_arr hX (by decide)) rfl hin hd (fun H1 locs1 hP1 hD1 hS1 => ?_)
  rw [hx, hs_enc_ua hX (by decide)] at hP1
  exact kk p l e s m args below meth c G A C H1 locs1 ls hP1 hS1 hl
theorem hr_alen {k n : Nat} {v : Int32} (hd : decode d.2.1 pc = .ok (.arraylength, 1)) (hX : hs_AX k 0 n) (hv : Int32.ofNat n = v) (kk : hs_Rn d (pc + 1) lv (.int v :: st) σ K) : hs_Rn d pc lv (.ref k :: st) σ K :=
  fun p l e s m args below meth c G A C H locs ls hP hS hl => va_alen C.1 C.2.1 C.2.2.2.2.2.2.2.1 hP k 0 (hs_enc_arr hX (by decide)) rfl hv hd (kk p l e s m args below meth c G A C H locs ls hP hS hl)
/-- the row of images -/
theorem hr_aald {n : Nat} {i : Int32} (hd : decode d.2.1 pc = .ok (.aaload, 1)) (hX : hs_AX 34 2 n) (hin : vp_in i n) (k0 : i.toNatClampNeg = 0 → hs_Rn d (pc + 1) lv (.ref 35 :: st) σ K) (k1 : ¬ i.toNatClampNeg = 0 → hs_Rn d (pc + 1) lv (.ref 46 :: st) σ K) : hs_Rn d pc lv (.int i :: .ref 34 :: st) σ K := by
  intro p l e s m args below meth c G A C H locs ls hP hS hl
  refine va_aldq (C := "HauntSums$Town") (f := fun j => some (G.2.2.1 (hs_img j))) C.1 C.2.1 C.2.2.2.2.2.2.2.1 hP 34 2 ((hs_enc_at hX).trans ?_) rfl hin hd ?_
  · simp only [hs_cell, if_true]
  · by_cases h0 : i.toNatClampNeg = 0
    · have e2 : hs_img i.toNatClampNeg = 35 := by simp [hs_img, h0]
      rw [e2]
      exact k0 h0 p l e s m args below meth c G A C H locs ls hP hS hl
    · have e2 : hs_img i.toNatClampNeg = 46 := by simp [hs_img, h0]
      rw [e2]
      exact k1 h0 p l e s m args below meth c G A C H locs ls hP hS hl
/-! returns -/
theorem hr_iret {v : Int32} (hd : decode d.2.1 pc = .ok (.ireturn, 1)) (hr : d.2.2.2.1 = some .int) (hk : K (some (.int v)) σ) : hs_Rn d pc lv [.int v] σ K := by
  intro p l e s m args below meth c G A C H locs ls hP hS hl
  refine W.iret C.1 C.2.1 (C.2.2.1.trans hr) (fun t ht hW => ⟨⟨some (.int v), σ, rfl, hk, by rw [ht]; exact hP⟩, hS.F ht⟩) hS.2.2 hd C.2.2.2.2.2.2.1
theorem hr_zret {b : Bool} {v : Int32} (hd : decode d.2.1 pc = .ok (.ireturn, 1)) (hr : d.2.2.2.1 = some .boolean) (hv : v = hs_b b) (hk : K (some (.int (hs_b b))) σ) : hs_Rn d pc lv [.int v] σ K := by
  intro p l e s m args below meth c G A C H locs ls hP hS hl
  subst hv
  refine W.zret C.1 C.2.1 (C.2.2.1.trans hr) (by cases b <;> rfl) (fun t ht hW => ⟨⟨some (.int (hs_b b)), σ, rfl, hk, by rw [ht]; exact hP⟩, hS.F ht⟩) hS.2.2 hd C.2.2.2.2.2.2.1
theorem hr_lret {v : Int64} (hd : decode d.2.1 pc = .ok (.lreturn, 1)) (hr : d.2.2.2.1 = some .long) (hk : K (some (.long v)) σ) : hs_Rn d pc lv [.long v] σ K := by
  intro p l e s m args below meth c G A C H locs ls hP hS hl
  refine W.lret C.1 C.2.1 (C.2.2.1.trans hr) (fun t ht hW => ⟨⟨some (.long v), σ, rfl, hk, by rw [ht]; exact hP⟩, hS.F ht⟩) hS.2.2 hd C.2.2.2.2.2.2.1
theorem hr_vret (hd : decode d.2.1 pc = .ok (.return_, 1)) (hr : d.2.2.2.1 = none) (hk : K none σ) : hs_Rn d pc lv [] σ K := by
  intro p l e s m args below meth c G A C H locs ls hP hS hl
  refine W.vret C.1 C.2.1 (C.2.2.1.trans hr) (fun t ht hW => ⟨⟨none, σ, rfl, hk, by rw [ht]; exact hP⟩, hS.F ht⟩) hS.2.2 hd C.2.2.2.2.2.2.1
/-! constants -/
theorem hr_ldc {idx : Nat} {v : Int32} (hd : decode d.2.1 pc = .ok (.ldc idx, 2)) (hw : Cond.constant d.1.cls idx v ∈ hs_U) (k : hs_Rn d (pc + 2) lv (.int v :: st) σ K) : hs_Rn d pc lv st σ K :=
  fun p l e s m args below meth c G A C H locs ls hP hS hl => lv_ldc C.1 C.2.1 C.2.2.2.2.1 (hs_u C hw) hd (k p l e s m args below meth c G A C H locs ls hP hS hl)
theorem hr_ldc2 {idx : Nat} {v : Int64} (hd : decode d.2.1 pc = .ok (.ldc2_w idx, 3)) (hw : Cond.constantLong d.1.cls idx v ∈ hs_U) (k : hs_Rn d (pc + 3) lv (.long v :: st) σ K) : hs_Rn d pc lv st σ K :=
  fun p l e s m args below meth c G A C H locs ls hP hS hl => lv_ldc2 C.1 C.2.1 C.2.2.2.2.1 (hs_u C hw) hd (k p l e s m args below meth c G A C H locs ls hP hS hl)
theorem hr_ldcS {idx i : Nat} {tx : String} (hd : decode d.2.1 pc = .ok (.ldc idx, 2)) (hy : d.1.cls = "HauntSums$Reader") (hw : hs_txt[i]? = some (idx, tx)) (k : hs_Rn d (pc + 2) lv (.ref (1000 + i) :: st) σ K) : hs_Rn d pc lv st σ K := by
  intro p l e s m args below meth c G A C H locs ls hP hS hl
  exact va_ldcS C.1 C.2.1 (hy ▸ C.2.2.2.2.1) (C.2.2.2.2.2.2.2.2.2.1.2.1 i _ hw) hd (k p l e s m args below meth c G A C H locs ls hP hS hl)
/-! Math, arraycopy -/
def hs_mx (x y : Int32) : Int32 := if x < y then y else x
def hs_ab (x : Int32) : Int32 := if 0 ≤ x then x else 0 - x
theorem hr_max {idx : Nat} {x y : Int32} (hd : decode d.2.1 pc = .ok (.invokestatic idx, 3)) (hlink : Cond.methodLink d.1.cls idx Lib.Math.max.name ∈ hs_U) (hs : Cond.static Lib.Math.max.name ∈ hs_U) (hi : Cond.initialized "java/lang/Math" ∈ hs_U) (hc : Cond.code Lib.Math.max.name Lib.Math.max.code 2 (some .int) ∈ hs_U) (hf : 1 ≤ d.2.2.2.2.1) (hm : (st.map fun v => v.category).sum + 13 ≤ d.2.2.2.2.2) (k : hs_Rn d (pc + 3) lv (.int (hs_mx x y) :: st) σ K) : hs_Rn d pc lv (.int y :: .int x :: st) σ K := by
  intro p l e s m args below meth c G A C H locs ls hP hS hl
  exact va_mmax C.1 C.2.1 (C.2.2.2.1.trans hl.1.symm) C.2.2.2.2.1 (hs_u C hlink) (hs_u C hs) (hs_u C hi) (hs_u C hc) hf (by rw [hs_tr_sum]; exact hm) (Nat.le_refl _) (Nat.le_refl _) hd (k p l e s m args below meth c G A C H locs ls hP hS hl)
theorem hr_abs {idx : Nat} {x : Int32} (hd : decode d.2.1 pc = .ok (.invokestatic idx, 3)) (hlink : Cond.methodLink d.1.cls idx Lib.Math.abs.name ∈ hs_U) (hs : Cond.static Lib.Math.abs.name ∈ hs_U) (hi : Cond.initialized "java/lang/Math" ∈ hs_U) (hc : Cond.code Lib.Math.abs.name Lib.Math.abs.code 1 (some .int) ∈ hs_U) (hf : 1 ≤ d.2.2.2.2.1) (hm : (st.map fun v => v.category).sum + 13 ≤ d.2.2.2.2.2) (k : hs_Rn d (pc + 3) lv (.int (hs_ab x) :: st) σ K) : hs_Rn d pc lv (.int x :: st) σ K := by
  intro p l e s m args below meth c G A C H locs ls hP hS hl
  exact va_mabs C.1 C.2.1 (C.2.2.2.1.trans hl.1.symm) C.2.2.2.2.1 (hs_u C hlink) (hs_u C hs) (hs_u C hi) (hs_u C hc) hf (by rw [hs_tr_sum]; exact hm) (Nat.le_refl _) (Nat.le_refl _) hd (k p l e s m args below meth c G A C H locs ls hP hS hl)
/-- arraycopy of a whole row of n from place 0 to place 0 -/
theorem hr_copy {idx k0 k1 n : Nat} {z : Int32} (hd : decode d.2.1 pc = .ok (.invokestatic idx, 3)) (hlink : Cond.methodLink d.1.cls idx arraycopyName ∈ hs_U) (hn : Cond.native arraycopyName ∈ hs_U) (hs : Cond.static arraycopyName ∈ hs_U) (hi : Cond.initialized "java/lang/System" ∈ hs_U) (h0 : hs_AX k0 0 n) (h1 : hs_AX k1 0 n) (hz : z.toNatClampNeg = n) (hz0 : ¬ z < 0) (hf : 1 ≤ d.2.2.2.2.1) (hm : (st.map fun v => v.category).sum + (nativeFrameWords "java/lang/System" "arraycopy" 5 + 11) ≤ d.2.2.2.2.2) (k : hs_Rn d (pc + 3) lv st (hs_ua σ k1 (va_cpy (σ.1 k0) (σ.1 k1) 0 0 n)) K) : hs_Rn d pc lv (.int z :: .int 0 :: .ref k1 :: .int 0 :: .ref k0 :: st) σ K := by
  intro p l e s m args below meth c G A C H locs ls hP hS hl
  have e0 : (0 : Int32).toNatClampNeg = 0 := by decide
  refine va_copyi C.1 C.2.1 (C.2.2.2.1.trans hl.1.symm) C.2.2.2.2.1 (hs_u C hlink) (hs_u C hn) (hs_u C hs) (hs_u C hi) C.2.2.2.2.2.2.2.1 hP (C.2.2.2.2.2.2.2.2.2.2.2 σ) hS k0 k1 0 0 (ty := .int) (hs_enc_arr h0 (by decide)) (hs_enc_arr h1 (by decide)) rfl rfl rfl (by decide) (by decide) hz0 (by rw [hz, e0]; omega) (by rw [hz, e0]; omega) (fun i _ => rfl) hf (by rw [hs_tr_sum]; exact hm) hd (fun H1 locs1 hP1 hD1 hS1 => ?_)
  rw [hz, e0, hs_enc_ua h1 (by decide)] at hP1
  exact k p l e s m args below meth c G A C H1 locs1 ls hP1 hS1 hl
/-! calls -/
theorem hw_call {p : Program} {l : Launch} {e : Env} {R : Room} {s : State} {m : MethodId} {args : Array Value} {below : List Frame} {meth : Method} {c : Code} {H : Heap} {locs : List Loc} {cells slots : Nat} {Q : State → Prop} {G : hs_G} {A A1 free : Nat → Prop} {K' : Option Value → hs_St → Prop} {a : Array Value} {pc : Nat} {ls : Array Slot} {st0 rest : List Value} {H0 : Heap}
    (hr : va_Run p l e R s m args below meth c H locs cells slots 0 0 (F0 m pc ls st0) rest (hs_Qc G A1 K' a) free) (hS : va_S A H0 H locs) (hA : ∀ q, A1 q → A q) (hf : ∀ q, free q → A q)
    (kk : ∀ (r : Option Value) (τ : hs_St) (H1 : Heap) (locs1 : List Loc), K' r τ → va_P G.1 vwCl (hs_enc G τ) H1 → va_S A H0 H1 locs1 → W p l e R s m args below meth c H1 locs1 cells slots Q (F0 m (pc + 3) ls ((r.map (hs_tr G.2.2.1)).toList ++ rest))) : W p l e R s m args below meth c H locs cells slots Q (F0 m pc ls st0) := by
  intro T hT X
  obtain ⟨v, st₀, t, T', L, h0, X', hL, e1, e2, ⟨⟨r, τ, hv, hp, hb⟩, hz, hk⟩, st⟩ := hr T hT X
  cases hv
  rw [h0] at hz hk
  obtain ⟨t2, a1, b1⟩ := kk r τ T'.heap (locs ++ L) hp (by rw [e1]; exact hb)
    ⟨Nat.le_trans hS.1 (by rw [e1]; exact hz), fun q h1 h2 => by rw [e1, hk q (Nat.lt_of_lt_of_le h1 hS.1) (fun z => h2 (hA q z))]; exact hS.2.1 q h1 h2, fun q hq => by
      rcases List.mem_append.mp hq with h | h
      · exact hS.2.2 q h
      · exact hf _ (hL q h)⟩ T' rfl X'
  exact ⟨t2, st t2 a1, b1⟩
theorem hs_blind {G : hs_G} {σ : hs_St} {av : List Value} {sz : Nat} : FrameBlind (hs_Pc G σ av sz) := by
  intro a U g mk q
  obtain ⟨q0, q1, qP, qK, qD, qN, qX⟩ := q
  exact ⟨q0, q1, qP, va_K.moved (u := U) (U := U.calling g mk a) (Vm.Alike.refl U.vm) qK, qD, hs_N.same (u := U) (U := U.calling g mk a) rfl qN, hs_X.same (u := U) (U := U.calling g mk a) rfl qX⟩
theorem hs_pre {p : Program} {s : State} {m : MethodId} {args : Array Value} {meth : Method} {c : Code} {G : hs_G} {A : Nat → Prop} {H : Heap} {locs : List Loc} (C : hs_Cx d p s m args meth c G A) (hP : va_P G.1 vwCl (hs_enc G σ) H) (hS : va_S A s.heap H locs) (av : List Value) (U : State) (hU : U.heap = H) (hW : s.WarmedH U.vm) : hs_Pc G σ av H.size (av.map (hs_tr G.2.2.1)).toArray U := by
  obtain ⟨-, -, -, -, -, -, -, hK, hN, hX, hA, hD⟩ := C
  have hsub : ∀ q, va_A (hs_enc G σ) H.size q → A q := by
    intro q h
    rcases h with ⟨k, e, h⟩ | h
    · exact (hD σ).2 k (q, e) h
    · exact hA q (Nat.le_trans hS.1 h)
  refine ⟨rfl, by rw [hU], by rw [hU]; exact hP, va_K.moved hW.alike hK, (hD σ).weaken (fun _ _ _ _ => trivial), hN.warm hW, ?_⟩
  rw [hU]
  exact ((hX.kept (fun a h1 h2 => hS.2.1 a h1 h2)).narrow hsub).warm hW
theorem hs_sub {p : Program} {s : State} {m : MethodId} {args : Array Value} {meth : Method} {c : Code} {G : hs_G} {A : Nat → Prop} {H : Heap} {locs : List Loc} (C : hs_Cx d p s m args meth c G A) (hS : va_S A s.heap H locs) : ∀ q, va_A (hs_enc G σ) H.size q → A q := by
  obtain ⟨-, -, -, -, -, -, -, hK, hN, hX, hA, hD⟩ := C
  intro q h
  rcases h with ⟨k, e, h⟩ | h
  · exact (hD σ).2 k (q, e) h
  · exact hA q (Nat.le_trans hS.1 h)
/-- what the tables say of a method that is called -/
def hs_CM (y : hs_M) (n : Nat) : Prop := Cond.code y.1 y.2.1 y.2.2.1 y.2.2.2.1 ∈ hs_U ∧ Cond.initialized y.1.cls ∈ hs_U ∧ y.1.cls ≠ "java/lang/invoke/MethodHandle" ∧ y.1.cls ≠ "java/lang/invoke/VarHandle" ∧ (parseMethodDescriptor y.1.desc).map (fun d => d.parameters.length) = some n
def hs_CV (y : hs_M) : Prop := Cond.instanceMethod y.1 ∈ hs_U ∧ Cond.selects y.1.cls y.1 y.1 ∈ hs_U
def hs_fits (d y : hs_M) (st : List Value) : Prop := y.2.2.2.2.1 + 1 ≤ d.2.2.2.2.1 ∧ 8 + (y.2.2.1 + 11) + y.2.2.2.2.2 ≤ d.2.2.2.2.2 ∧ (st.map fun v => v.category).sum ≤ 8
theorem hs_goodIn (d y : hs_M) (h : Cond.code y.1 y.2.1 y.2.2.1 y.2.2.2.1 ∈ hs_U) : GoodIn (hs_ws d) (hs_ws y) := by
  intro w hw
  have h1 : w ∈ hs_U := by
    rcases List.mem_cons.mp hw with h2 | h2
    · rw [h2]; exact h
    · exact h2
  exact ⟨List.mem_cons_of_mem _ h1, hs_good w h1⟩
theorem hs_callB {p : Program} {s : State} {m : MethodId} {args : Array Value} {meth : Method} {c : Code} {G : hs_G} {A : Nat → Prop} (C : hs_Cx d p s m args meth c G A) {y : hs_M} {idx n : Nat} (hl : Cond.methodLink d.1.cls idx y.1 ∈ hs_U) (hm : hs_CM y n) {st : List Value} (hf : hs_fits d y st) : CallB (hs_rm d) s args d.1.cls idx y.1 y.2.1 y.2.2.1 y.2.2.2.1 (hs_ws y) (hs_rm y) 0 0 n :=
  callB_of n C.2.2.2.2.2.1 (hs_goodIn d y hm.1) rfl rfl rfl (hs_u C hm.2.1) (hs_u C hl) hm.2.2 ⟨hf.1, hf.2.1⟩
theorem hs_recv {p : Program} {s : State} {m : MethodId} {args : Array Value} {meth : Method} {c : Code} {G : hs_G} {A : Nat → Prop} (C : hs_Cx d p s m args meth c G A) {H : Heap} (hP : va_P G.1 vwCl (hs_enc G σ) H) {k ci : Nat} {fd : List (Option (Option Nat))} (hk : hs_shape[k]? = some (.inr (ci, fd))) {Cn : String} (hc : (vwCl[ci]?.map (·.1)) = some Cn) : ∃ cell : Cell, H[G.2.2.1 k]? = some cell ∧ cell.vm.isStatics = false ∧ s.vm.findClass Cn = some cell.cls := by
  cases hq : vwCl[ci]? with
  | none => rw [hq] at hc; cases hc
  | some q =>
    rw [hq] at hc
    obtain ⟨cell, h1, h2, h3⟩ := va_recv C.2.2.2.2.2.2.2.1 hP hq (hs_enc_at hk)
    cases hc
    exact ⟨cell, h1, h2, h3⟩
theorem hr_callV {y : hs_M} {idx n k ci : Nat} {As : List Value} {fd : List (Option (Option Nat))} (hd : decode d.2.1 pc = .ok (.invokevirtual idx, 3)) (hl : Cond.methodLink d.1.cls idx y.1 ∈ hs_U) (hm : hs_CM y n) (hv : hs_CV y) (hn : As.length = n) (hf : hs_fits d y st) (hk : hs_shape[k]? = some (.inr (ci, fd))) (hc : (vwCl[ci]?.map (·.1)) = some y.1.cls)
    (h : hs_Ok y (.ref k :: As) σ (fun r τ => hs_Rn d (pc + 3) lv (r.toList ++ st) τ K)) : hs_Rn d pc lv (As.reverse ++ .ref k :: st) σ K := by
  intro p l e s m args below meth c G A C H locs ls hP hS hl0
  have hCW : CallW (hs_rm d) s args d.1.cls y.1.cls idx y.1 y.2.1 y.2.2.1 y.2.2.2.1 (hs_ws y) (hs_rm y) 0 0 n := ⟨hs_callB C hl hm hf, hs_u C hv.1, hs_u C hv.2⟩
  refine hw_call (G := G) (A := A) (va_runV (As := As.map (hs_tr G.2.2.1)) (rest := st.map (hs_tr G.2.2.1)) ⟨C.1, C.2.1, C.2.2.2.1, C.2.2.2.2.1, C.2.2.2.2.2.1⟩ (h l G H.size) hCW ⟨hs_blind, hs_recv C hP hk hc, fun U hU hW => hs_pre C hP hS (.ref k :: As) U hU hW⟩ rfl (by rw [List.length_map]; exact hn) hl0.1 (by simp [hs_tr]) (lv_room (by rw [hs_tr_sum]; exact hf.2.2)) hd ⟨Nat.zero_le _, Nat.zero_le _⟩) hS (hs_sub C hS) (hs_sub C hS) (fun r τ H1 locs1 hK' hP1 hS1 => ?_)
  have e1 : (r.map (hs_tr G.2.2.1)).toList ++ st.map (hs_tr G.2.2.1) = (r.toList ++ st).map (hs_tr G.2.2.1) := by cases r <;> simp
  rw [e1]
  exact hK' p l e s m args below meth c G A C H1 locs1 ls hP1 hS1 hl0
theorem hr_callS {y : hs_M} {idx n : Nat} {As : List Value} (hd : decode d.2.1 pc = .ok (.invokestatic idx, 3)) (hl : Cond.methodLink d.1.cls idx y.1 ∈ hs_U) (hm : hs_CM y n) (hv : Cond.static y.1 ∈ hs_U) (hn : As.length = n) (hf : hs_fits d y st)
    (h : hs_Ok y As σ (fun r τ => hs_Rn d (pc + 3) lv (r.toList ++ st) τ K)) : hs_Rn d pc lv (As.reverse ++ st) σ K := by
  intro p l e s m args below meth c G A C H locs ls hP hS hl0
  refine hw_call (G := G) (A := A) (va_runS (As := As.map (hs_tr G.2.2.1)) (rest := st.map (hs_tr G.2.2.1)) ⟨C.1, C.2.1, C.2.2.2.1, C.2.2.2.2.1, C.2.2.2.2.2.1⟩ (h l G H.size) ⟨hs_callB C hl hm hf, hs_u C hv⟩ ⟨hs_blind, fun U hU hW => hs_pre C hP hS As U hU hW⟩ rfl (by rw [List.length_map]; exact hn) hl0.1 (by simp) (lv_room (by rw [hs_tr_sum]; exact hf.2.2)) hd ⟨Nat.zero_le _, Nat.zero_le _⟩) hS (hs_sub C hS) (hs_sub C hS) (fun r τ H1 locs1 hK' hP1 hS1 => ?_)
  have e1 : (r.map (hs_tr G.2.2.1)).toList ++ st.map (hs_tr G.2.2.1) = (r.toList ++ st).map (hs_tr G.2.2.1) := by cases r <;> simp
  rw [e1]
  exact hK' p l e s m args below meth c G A C H1 locs1 ls hP1 hS1 hl0
theorem hr_callN {y : hs_M} {idx n : Nat} {As : List Value} {host : String} (hd : decode d.2.1 pc = .ok (.invokestatic idx, 3)) (hl : Cond.methodLinkNest d.1.cls idx y.1 host ∈ hs_nest) (hm : hs_CM y n) (hv : Cond.static y.1 ∈ hs_U) (hn : As.length = n) (hf : hs_fits d y st)
    (h : hs_Ok y As σ (fun r τ => hs_Rn d (pc + 3) lv (r.toList ++ st) τ K)) : hs_Rn d pc lv (As.reverse ++ st) σ K := by
  intro p l e s m args below meth c G A C H locs ls hP hS hl0
  have hCN : va_CN (hs_rm d) s args d.1.cls idx y.1 host y.2.1 y.2.2.1 y.2.2.2.1 (hs_ws y) (hs_rm y) 0 0 n := va_cnB n C.2.2.2.2.2.1 (hs_goodIn d y hm.1) rfl rfl rfl (C.2.2.2.2.2.2.2.2.1 _ hl) (hs_u C hm.2.1) hm.2.2 ⟨hf.1, hf.2.1⟩
  refine hw_call (G := G) (A := A) (va_runSN (As := As.map (hs_tr G.2.2.1)) (rest := st.map (hs_tr G.2.2.1)) ⟨C.1, C.2.1, C.2.2.2.1, C.2.2.2.2.1, C.2.2.2.2.2.1⟩ (h l G H.size) ⟨hCN, hs_u C hv, trivial⟩ ⟨hs_blind, fun U hU hW => hs_pre C hP hS As U hU hW⟩ rfl (by rw [List.length_map]; exact hn) hl0.1 (by simp) (lv_room (by rw [hs_tr_sum]; exact hf.2.2)) hd ⟨Nat.zero_le _, Nat.zero_le _⟩) hS (hs_sub C hS) (hs_sub C hS) (fun r τ H1 locs1 hK' hP1 hS1 => ?_)
  have e1 : (r.map (hs_tr G.2.2.1)).toList ++ st.map (hs_tr G.2.2.1) = (r.toList ++ st).map (hs_tr G.2.2.1) := by cases r <;> simp
  rw [e1]
  exact hK' p l e s m args below meth c G A C H1 locs1 ls hP1 hS1 hl0
/-! tableswitch -/
theorem hr_tab {dflt lo hi : Int} {offs : Array Int} {len : Nat} {x : Int32} (hd : decode d.2.1 pc = .ok (.tableswitch dflt lo hi offs, len)) (hs : (offs.size : Int) = hi - lo + 1) (tgt : Nat → Nat) (tg : Nat) (ht : ∀ j : Nat, j < offs.size → ∃ off, offs[j]? = some off ∧ (pc : Int) + off = (tgt j : Int)) (ht0 : (pc : Int) + dflt = (tg : Int))
    (kin : ∀ j : Nat, j < offs.size → x.toInt = lo + j → hs_Rn d (tgt j) lv st σ K) (kout : (x.toInt < lo ∨ hi < x.toInt) → hs_Rn d tg lv st σ K) : hs_Rn d pc lv (.int x :: st) σ K := by
  intro p l e s m args below meth c G A C H locs ls hP hS hl
  by_cases h : x.toInt < lo ∨ hi < x.toInt
  · exact lv_tableOut C.1 C.2.1 hd h ht0 (kout h p l e s m args below meth c G A C H locs ls hP hS hl)
  · have h1 : ¬ x.toInt < lo := fun q => h (Or.inl q)
    have h2 : ¬ hi < x.toInt := fun q => h (Or.inr q)
    have hj : (x.toInt - lo).toNat < offs.size := by omega
    obtain ⟨off, ho, he⟩ := ht _ hj
    exact lv_tableIn C.1 C.2.1 hd h1 h2 ho he (kin _ hj (by omega) p l e s m args below meth c G A C H locs ls hP hS hl)
end HR2
/-! typed contracts -/
def hs_KI (K : Int32 → hs_St → Prop) : Option Value → hs_St → Prop := fun o τ => ∃ r, o = some (.int r) ∧ K r τ
def hs_KB (K : Bool → hs_St → Prop) : Option Value → hs_St → Prop := fun o τ => ∃ r, o = some (.int (hs_b r)) ∧ K r τ
def hs_KL (K : Int64 → hs_St → Prop) : Option Value → hs_St → Prop := fun o τ => ∃ r, o = some (.long r) ∧ K r τ
def hs_KV (K : hs_St → Prop) : Option Value → hs_St → Prop := fun o τ => o = none ∧ K τ
abbrev OkI (d : hs_M) (av : List Value) (σ : hs_St) (K : Int32 → hs_St → Prop) : Prop := hs_Ok d av σ (hs_KI K)
abbrev OkB (d : hs_M) (av : List Value) (σ : hs_St) (K : Bool → hs_St → Prop) : Prop := hs_Ok d av σ (hs_KB K)
abbrev OkL (d : hs_M) (av : List Value) (σ : hs_St) (K : Int64 → hs_St → Prop) : Prop := hs_Ok d av σ (hs_KL K)
abbrev OkV (d : hs_M) (av : List Value) (σ : hs_St) (K : hs_St → Prop) : Prop := hs_Ok d av σ (hs_KV K)
abbrev RnI (d : hs_M) (pc : Nat) (lv : List (Nat × Value)) (st : List Value) (σ : hs_St) (K : Int32 → hs_St → Prop) : Prop := hs_Rn d pc lv st σ (hs_KI K)
abbrev RnB (d : hs_M) (pc : Nat) (lv : List (Nat × Value)) (st : List Value) (σ : hs_St) (K : Bool → hs_St → Prop) : Prop := hs_Rn d pc lv st σ (hs_KB K)
abbrev RnL (d : hs_M) (pc : Nat) (lv : List (Nat × Value)) (st : List Value) (σ : hs_St) (K : Int64 → hs_St → Prop) : Prop := hs_Rn d pc lv st σ (hs_KL K)
abbrev RnV (d : hs_M) (pc : Nat) (lv : List (Nat × Value)) (st : List Value) (σ : hs_St) (K : hs_St → Prop) : Prop := hs_Rn d pc lv st σ (hs_KV K)
theorem OkI.go {d : hs_M} {av : List Value} {σ : hs_St} {K : Int32 → hs_St → Prop} {K' : Option Value → hs_St → Prop} (h : OkI d av σ K) (f : ∀ r τ, K r τ → K' (some (.int r)) τ) : hs_Ok d av σ K' := hs_Ok.mono h (fun o τ ⟨r, e, hk⟩ => by subst e; exact f r τ hk)
theorem OkB.go {d : hs_M} {av : List Value} {σ : hs_St} {K : Bool → hs_St → Prop} {K' : Option Value → hs_St → Prop} (h : OkB d av σ K) (f : ∀ r τ, K r τ → K' (some (.int (hs_b r))) τ) : hs_Ok d av σ K' := hs_Ok.mono h (fun o τ ⟨r, e, hk⟩ => by subst e; exact f r τ hk)
theorem OkL.go {d : hs_M} {av : List Value} {σ : hs_St} {K : Int64 → hs_St → Prop} {K' : Option Value → hs_St → Prop} (h : OkL d av σ K) (f : ∀ r τ, K r τ → K' (some (.long r)) τ) : hs_Ok d av σ K' := hs_Ok.mono h (fun o τ ⟨r, e, hk⟩ => by subst e; exact f r τ hk)
theorem OkV.go {d : hs_M} {av : List Value} {σ : hs_St} {K : hs_St → Prop} {K' : Option Value → hs_St → Prop} (h : OkV d av σ K) (f : ∀ τ, K τ → K' none τ) : hs_Ok d av σ K' := hs_Ok.mono h (fun o τ ⟨e, hk⟩ => by subst e; exact f τ hk)
theorem OkI.mono {d : hs_M} {av : List Value} {σ : hs_St} {K K' : Int32 → hs_St → Prop} (h : OkI d av σ K) (f : ∀ r τ, K r τ → K' r τ) : OkI d av σ K' := OkI.go h (fun r τ hk => ⟨r, rfl, f r τ hk⟩)
theorem OkB.mono {d : hs_M} {av : List Value} {σ : hs_St} {K K' : Bool → hs_St → Prop} (h : OkB d av σ K) (f : ∀ r τ, K r τ → K' r τ) : OkB d av σ K' := OkB.go h (fun r τ hk => ⟨r, rfl, f r τ hk⟩)
theorem OkL.mono {d : hs_M} {av : List Value} {σ : hs_St} {K K' : Int64 → hs_St → Prop} (h : OkL d av σ K) (f : ∀ r τ, K r τ → K' r τ) : OkL d av σ K' := OkL.go h (fun r τ hk => ⟨r, rfl, f r τ hk⟩)
theorem OkV.mono {d : hs_M} {av : List Value} {σ : hs_St} {K K' : hs_St → Prop} (h : OkV d av σ K) (f : ∀ τ, K τ → K' τ) : OkV d av σ K' := OkV.go h (fun τ hk => ⟨rfl, f τ hk⟩)
end
