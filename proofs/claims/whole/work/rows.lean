section
-- ===== PART A: goes FIRST, ahead of the names: the tables' words, and 'selects' of the private methods out of them =====
/-- a private method of a class that the tables say can be made, by its rows of tables_1 -/
def lw_okq (q : MethodName × Nat) : Prop := (q.1.cls ≠ "java/lang/invoke/MethodHandle" ∧ q.1.cls ≠ "java/lang/invoke/VarHandle") ∧ Cond.instantiable q.1.cls q.2 ∈ tables_1 ∧ Cond.privateMethod q.1 ∈ tables_1 ∧ Cond.instanceMethod q.1 ∈ tables_1
theorem lw_p0 : lw_okq (⟨"java/lang/Throwable", "fillInStackTrace", "(I)Ljava/lang/Throwable;"⟩, 6) := ⟨⟨by decide +kernel, by decide +kernel⟩, List.mem_of_getElem? (i := 319) (by decide +kernel), List.mem_of_getElem? (i := 317) (by decide +kernel), List.mem_of_getElem? (i := 318) (by decide +kernel)⟩
theorem lw_p1 : lw_okq (⟨"ChuteLoft", "digestOfJumper", "(JI)J"⟩, 18) := ⟨⟨by decide +kernel, by decide +kernel⟩, List.mem_of_getElem? (i := 29) (by decide +kernel), List.mem_of_getElem? (i := 349) (by decide +kernel), List.mem_of_getElem? (i := 350) (by decide +kernel)⟩
theorem lw_p2 : lw_okq (⟨"ChuteLoft", "jumperAt", "(I)LChuteLoft$Jumper;"⟩, 18) := ⟨⟨by decide +kernel, by decide +kernel⟩, List.mem_of_getElem? (i := 29) (by decide +kernel), List.mem_of_getElem? (i := 357) (by decide +kernel), List.mem_of_getElem? (i := 358) (by decide +kernel)⟩
theorem lw_p3 : lw_okq (⟨"ChuteLoft", "placeOf", "(I)I"⟩, 18) := ⟨⟨by decide +kernel, by decide +kernel⟩, List.mem_of_getElem? (i := 29) (by decide +kernel), List.mem_of_getElem? (i := 377) (by decide +kernel), List.mem_of_getElem? (i := 378) (by decide +kernel)⟩
theorem lw_p4 : lw_okq (⟨"ChuteLoft", "whyNot", "(I)I"⟩, 18) := ⟨⟨by decide +kernel, by decide +kernel⟩, List.mem_of_getElem? (i := 29) (by decide +kernel), List.mem_of_getElem? (i := 396) (by decide +kernel), List.mem_of_getElem? (i := 397) (by decide +kernel)⟩
theorem lw_p5 : lw_okq (⟨"ChuteLoft", "rigAt", "(I)LChuteLoft$Rig;"⟩, 18) := ⟨⟨by decide +kernel, by decide +kernel⟩, List.mem_of_getElem? (i := 29) (by decide +kernel), List.mem_of_getElem? (i := 400) (by decide +kernel), List.mem_of_getElem? (i := 401) (by decide +kernel)⟩
theorem lw_p6 : lw_okq (⟨"ChuteLoft", "isLet", "(LChuteLoft$Jumper;F)Z"⟩, 18) := ⟨⟨by decide +kernel, by decide +kernel⟩, List.mem_of_getElem? (i := 29) (by decide +kernel), List.mem_of_getElem? (i := 414) (by decide +kernel), List.mem_of_getElem? (i := 415) (by decide +kernel)⟩
theorem lw_p7 : lw_okq (⟨"ChuteLoft", "holderOf", "(I)I"⟩, 18) := ⟨⟨by decide +kernel, by decide +kernel⟩, List.mem_of_getElem? (i := 29) (by decide +kernel), List.mem_of_getElem? (i := 425) (by decide +kernel), List.mem_of_getElem? (i := 426) (by decide +kernel)⟩
theorem lw_p8 : lw_okq (⟨"ChuteLoft", "digestOfRig", "(JI)J"⟩, 18) := ⟨⟨by decide +kernel, by decide +kernel⟩, List.mem_of_getElem? (i := 29) (by decide +kernel), List.mem_of_getElem? (i := 429) (by decide +kernel), List.mem_of_getElem? (i := 430) (by decide +kernel)⟩
theorem lw_p9 : lw_okq (⟨"ChuteLoft", "planFlight", "()V"⟩, 18) := ⟨⟨by decide +kernel, by decide +kernel⟩, List.mem_of_getElem? (i := 29) (by decide +kernel), List.mem_of_getElem? (i := 467) (by decide +kernel), List.mem_of_getElem? (i := 468) (by decide +kernel)⟩
theorem lw_p10 : lw_okq (⟨"ChuteLoft", "loadingOf", "(LChuteLoft$Jumper;)F"⟩, 18) := ⟨⟨by decide +kernel, by decide +kernel⟩, List.mem_of_getElem? (i := 29) (by decide +kernel), List.mem_of_getElem? (i := 475) (by decide +kernel), List.mem_of_getElem? (i := 476) (by decide +kernel)⟩
theorem lw_p11 : lw_okq (⟨"ChuteLoft", "pointsFrom", "(II)I"⟩, 18) := ⟨⟨by decide +kernel, by decide +kernel⟩, List.mem_of_getElem? (i := 29) (by decide +kernel), List.mem_of_getElem? (i := 486) (by decide +kernel), List.mem_of_getElem? (i := 487) (by decide +kernel)⟩
theorem lw_p12 : lw_okq (⟨"ChuteLoft$Jump", "steer", "()V"⟩, 11) := ⟨⟨by decide +kernel, by decide +kernel⟩, List.mem_of_getElem? (i := 62) (by decide +kernel), List.mem_of_getElem? (i := 519) (by decide +kernel), List.mem_of_getElem? (i := 520) (by decide +kernel)⟩
theorem lw_p13 : lw_okq (⟨"ChuteLoft$Flight", "goOn", "(ILChuteLoft$Winds;)Z"⟩, 2) := ⟨⟨by decide +kernel, by decide +kernel⟩, List.mem_of_getElem? (i := 55) (by decide +kernel), List.mem_of_getElem? (i := 549) (by decide +kernel), List.mem_of_getElem? (i := 550) (by decide +kernel)⟩
theorem lw_p14 : lw_okq (⟨"ChuteLoft$Flight", "countNewPairs", "()I"⟩, 2) := ⟨⟨by decide +kernel, by decide +kernel⟩, List.mem_of_getElem? (i := 55) (by decide +kernel), List.mem_of_getElem? (i := 555) (by decide +kernel), List.mem_of_getElem? (i := 556) (by decide +kernel)⟩
theorem lw_p15 : lw_okq (⟨"ChuteLoft", "lineUp", "(I)V"⟩, 18) := ⟨⟨by decide +kernel, by decide +kernel⟩, List.mem_of_getElem? (i := 29) (by decide +kernel), List.mem_of_getElem? (i := 651) (by decide +kernel), List.mem_of_getElem? (i := 652) (by decide +kernel)⟩
def lw_privs_1 : List (MethodName × Nat) := [(⟨"java/lang/Throwable", "fillInStackTrace", "(I)Ljava/lang/Throwable;"⟩, 6), (⟨"ChuteLoft", "digestOfJumper", "(JI)J"⟩, 18), (⟨"ChuteLoft", "jumperAt", "(I)LChuteLoft$Jumper;"⟩, 18), (⟨"ChuteLoft", "placeOf", "(I)I"⟩, 18), (⟨"ChuteLoft", "whyNot", "(I)I"⟩, 18), (⟨"ChuteLoft", "rigAt", "(I)LChuteLoft$Rig;"⟩, 18), (⟨"ChuteLoft", "isLet", "(LChuteLoft$Jumper;F)Z"⟩, 18), (⟨"ChuteLoft", "holderOf", "(I)I"⟩, 18), (⟨"ChuteLoft", "digestOfRig", "(JI)J"⟩, 18), (⟨"ChuteLoft", "planFlight", "()V"⟩, 18), (⟨"ChuteLoft", "loadingOf", "(LChuteLoft$Jumper;)F"⟩, 18), (⟨"ChuteLoft", "pointsFrom", "(II)I"⟩, 18), (⟨"ChuteLoft$Jump", "steer", "()V"⟩, 11), (⟨"ChuteLoft$Flight", "goOn", "(ILChuteLoft$Winds;)Z"⟩, 2), (⟨"ChuteLoft$Flight", "countNewPairs", "()I"⟩, 2), (⟨"ChuteLoft", "lineUp", "(I)V"⟩, 18)]
theorem lw_r1 : ∀ q ∈ lw_privs_1, lw_okq q := List.forall_mem_cons.mpr ⟨lw_p0, List.forall_mem_cons.mpr ⟨lw_p1, List.forall_mem_cons.mpr ⟨lw_p2, List.forall_mem_cons.mpr ⟨lw_p3, List.forall_mem_cons.mpr ⟨lw_p4, List.forall_mem_cons.mpr ⟨lw_p5, List.forall_mem_cons.mpr ⟨lw_p6, List.forall_mem_cons.mpr ⟨lw_p7, List.forall_mem_cons.mpr ⟨lw_p8, List.forall_mem_cons.mpr ⟨lw_p9, List.forall_mem_cons.mpr ⟨lw_p10, List.forall_mem_cons.mpr ⟨lw_p11, List.forall_mem_cons.mpr ⟨lw_p12, List.forall_mem_cons.mpr ⟨lw_p13, List.forall_mem_cons.mpr ⟨lw_p14, List.forall_mem_cons.mpr ⟨lw_p15, fun _ h => absurd h List.not_mem_nil⟩⟩⟩⟩⟩⟩⟩⟩⟩⟩⟩⟩⟩⟩⟩⟩
theorem lw_p16 : lw_okq (⟨"ChuteLoft", "goesAhead", "(II)Z"⟩, 18) := ⟨⟨by decide +kernel, by decide +kernel⟩, List.mem_of_getElem? (i := 29) (by decide +kernel), List.mem_of_getElem? (i := 655) (by decide +kernel), List.mem_of_getElem? (i := 656) (by decide +kernel)⟩
theorem lw_p17 : lw_okq (⟨"ChuteLoft", "setPlace", "(II)V"⟩, 18) := ⟨⟨by decide +kernel, by decide +kernel⟩, List.mem_of_getElem? (i := 29) (by decide +kernel), List.mem_of_getElem? (i := 659) (by decide +kernel), List.mem_of_getElem? (i := 660) (by decide +kernel)⟩
theorem lw_p18 : lw_okq (⟨"ChuteLoft", "drawTroubles", "()V"⟩, 18) := ⟨⟨by decide +kernel, by decide +kernel⟩, List.mem_of_getElem? (i := 29) (by decide +kernel), List.mem_of_getElem? (i := 671) (by decide +kernel), List.mem_of_getElem? (i := 672) (by decide +kernel)⟩
theorem lw_p19 : lw_okq (⟨"ChuteLoft", "settle", "(LChuteLoft$Jumper;LChuteLoft$Jump;)I"⟩, 18) := ⟨⟨by decide +kernel, by decide +kernel⟩, List.mem_of_getElem? (i := 29) (by decide +kernel), List.mem_of_getElem? (i := 680) (by decide +kernel), List.mem_of_getElem? (i := 681) (by decide +kernel)⟩
theorem lw_p20 : lw_okq (⟨"ChuteLoft", "planAlone", "(LChuteLoft$Jumper;II)V"⟩, 18) := ⟨⟨by decide +kernel, by decide +kernel⟩, List.mem_of_getElem? (i := 29) (by decide +kernel), List.mem_of_getElem? (i := 734) (by decide +kernel), List.mem_of_getElem? (i := 735) (by decide +kernel)⟩
theorem lw_p21 : lw_okq (⟨"ChuteLoftModel", "no", "(I)I"⟩, 14) := ⟨⟨by decide +kernel, by decide +kernel⟩, List.mem_of_getElem? (i := 759) (by decide +kernel), List.mem_of_getElem? (i := 847) (by decide +kernel), List.mem_of_getElem? (i := 848) (by decide +kernel)⟩
theorem lw_p22 : lw_okq (⟨"java/util/ArrayList", "add", "(Ljava/lang/Object;[Ljava/lang/Object;I)V"⟩, 3) := ⟨⟨by decide +kernel, by decide +kernel⟩, List.mem_of_getElem? (i := 765) (by decide +kernel), List.mem_of_getElem? (i := 919) (by decide +kernel), List.mem_of_getElem? (i := 920) (by decide +kernel)⟩
theorem lw_p23 : lw_okq (⟨"java/util/ArrayList", "grow", "()[Ljava/lang/Object;"⟩, 3) := ⟨⟨by decide +kernel, by decide +kernel⟩, List.mem_of_getElem? (i := 765) (by decide +kernel), List.mem_of_getElem? (i := 923) (by decide +kernel), List.mem_of_getElem? (i := 924) (by decide +kernel)⟩
theorem lw_p24 : lw_okq (⟨"java/util/ArrayList", "grow", "(I)[Ljava/lang/Object;"⟩, 3) := ⟨⟨by decide +kernel, by decide +kernel⟩, List.mem_of_getElem? (i := 765) (by decide +kernel), List.mem_of_getElem? (i := 927) (by decide +kernel), List.mem_of_getElem? (i := 928) (by decide +kernel)⟩
theorem lw_p25 : lw_okq (⟨"ChuteLoftModel", "isRig", "(I)Z"⟩, 14) := ⟨⟨by decide +kernel, by decide +kernel⟩, List.mem_of_getElem? (i := 759) (by decide +kernel), List.mem_of_getElem? (i := 1006) (by decide +kernel), List.mem_of_getElem? (i := 1007) (by decide +kernel)⟩
theorem lw_p26 : lw_okq (⟨"ChuteLoftModel", "isJumper", "(I)Z"⟩, 14) := ⟨⟨by decide +kernel, by decide +kernel⟩, List.mem_of_getElem? (i := 759) (by decide +kernel), List.mem_of_getElem? (i := 1010) (by decide +kernel), List.mem_of_getElem? (i := 1011) (by decide +kernel)⟩
theorem lw_p27 : lw_okq (⟨"ChuteLoftModel", "holder", "(I)I"⟩, 14) := ⟨⟨by decide +kernel, by decide +kernel⟩, List.mem_of_getElem? (i := 759) (by decide +kernel), List.mem_of_getElem? (i := 1014) (by decide +kernel), List.mem_of_getElem? (i := 1015) (by decide +kernel)⟩
theorem lw_p28 : lw_okq (⟨"ChuteLoftModel", "aboard", "()I"⟩, 14) := ⟨⟨by decide +kernel, by decide +kernel⟩, List.mem_of_getElem? (i := 759) (by decide +kernel), List.mem_of_getElem? (i := 1050) (by decide +kernel), List.mem_of_getElem? (i := 1051) (by decide +kernel)⟩
theorem lw_p29 : lw_okq (⟨"ChuteLoftModel", "ground", "()I"⟩, 14) := ⟨⟨by decide +kernel, by decide +kernel⟩, List.mem_of_getElem? (i := 759) (by decide +kernel), List.mem_of_getElem? (i := 1058) (by decide +kernel), List.mem_of_getElem? (i := 1059) (by decide +kernel)⟩
theorem lw_p30 : lw_okq (⟨"ChuteLoftModel", "why", "(LChuteLoftModel$Jumper;)I"⟩, 14) := ⟨⟨by decide +kernel, by decide +kernel⟩, List.mem_of_getElem? (i := 759) (by decide +kernel), List.mem_of_getElem? (i := 1067) (by decide +kernel), List.mem_of_getElem? (i := 1068) (by decide +kernel)⟩
theorem lw_p31 : lw_okq (⟨"ChuteLoftModel", "loading", "(LChuteLoftModel$Jumper;)F"⟩, 14) := ⟨⟨by decide +kernel, by decide +kernel⟩, List.mem_of_getElem? (i := 759) (by decide +kernel), List.mem_of_getElem? (i := 1071) (by decide +kernel), List.mem_of_getElem? (i := 1072) (by decide +kernel)⟩
def lw_privs_2 : List (MethodName × Nat) := [(⟨"ChuteLoft", "goesAhead", "(II)Z"⟩, 18), (⟨"ChuteLoft", "setPlace", "(II)V"⟩, 18), (⟨"ChuteLoft", "drawTroubles", "()V"⟩, 18), (⟨"ChuteLoft", "settle", "(LChuteLoft$Jumper;LChuteLoft$Jump;)I"⟩, 18), (⟨"ChuteLoft", "planAlone", "(LChuteLoft$Jumper;II)V"⟩, 18), (⟨"ChuteLoftModel", "no", "(I)I"⟩, 14), (⟨"java/util/ArrayList", "add", "(Ljava/lang/Object;[Ljava/lang/Object;I)V"⟩, 3), (⟨"java/util/ArrayList", "grow", "()[Ljava/lang/Object;"⟩, 3), (⟨"java/util/ArrayList", "grow", "(I)[Ljava/lang/Object;"⟩, 3), (⟨"ChuteLoftModel", "isRig", "(I)Z"⟩, 14), (⟨"ChuteLoftModel", "isJumper", "(I)Z"⟩, 14), (⟨"ChuteLoftModel", "holder", "(I)I"⟩, 14), (⟨"ChuteLoftModel", "aboard", "()I"⟩, 14), (⟨"ChuteLoftModel", "ground", "()I"⟩, 14), (⟨"ChuteLoftModel", "why", "(LChuteLoftModel$Jumper;)I"⟩, 14), (⟨"ChuteLoftModel", "loading", "(LChuteLoftModel$Jumper;)F"⟩, 14)]
theorem lw_r2 : ∀ q ∈ lw_privs_2, lw_okq q := List.forall_mem_cons.mpr ⟨lw_p16, List.forall_mem_cons.mpr ⟨lw_p17, List.forall_mem_cons.mpr ⟨lw_p18, List.forall_mem_cons.mpr ⟨lw_p19, List.forall_mem_cons.mpr ⟨lw_p20, List.forall_mem_cons.mpr ⟨lw_p21, List.forall_mem_cons.mpr ⟨lw_p22, List.forall_mem_cons.mpr ⟨lw_p23, List.forall_mem_cons.mpr ⟨lw_p24, List.forall_mem_cons.mpr ⟨lw_p25, List.forall_mem_cons.mpr ⟨lw_p26, List.forall_mem_cons.mpr ⟨lw_p27, List.forall_mem_cons.mpr ⟨lw_p28, List.forall_mem_cons.mpr ⟨lw_p29, List.forall_mem_cons.mpr ⟨lw_p30, List.forall_mem_cons.mpr ⟨lw_p31, fun _ h => absurd h List.not_mem_nil⟩⟩⟩⟩⟩⟩⟩⟩⟩⟩⟩⟩⟩⟩⟩⟩
theorem lw_p32 : lw_okq (⟨"ChuteLoftModel", "most", "(LChuteLoftModel$Jumper;)F"⟩, 14) := ⟨⟨by decide +kernel, by decide +kernel⟩, List.mem_of_getElem? (i := 759) (by decide +kernel), List.mem_of_getElem? (i := 1079) (by decide +kernel), List.mem_of_getElem? (i := 1080) (by decide +kernel)⟩
theorem lw_p33 : lw_okq (⟨"ChuteLoftModel", "flight", "(II)Ljava/util/List;"⟩, 14) := ⟨⟨by decide +kernel, by decide +kernel⟩, List.mem_of_getElem? (i := 759) (by decide +kernel), List.mem_of_getElem? (i := 1095) (by decide +kernel), List.mem_of_getElem? (i := 1096) (by decide +kernel)⟩
theorem lw_p34 : lw_okq (⟨"ChuteLoftModel", "at", "(I)I"⟩, 14) := ⟨⟨by decide +kernel, by decide +kernel⟩, List.mem_of_getElem? (i := 759) (by decide +kernel), List.mem_of_getElem? (i := 1099) (by decide +kernel), List.mem_of_getElem? (i := 1100) (by decide +kernel)⟩
theorem lw_p35 : lw_okq (⟨"ChuteLoftModel", "placeOf", "(I)I"⟩, 14) := ⟨⟨by decide +kernel, by decide +kernel⟩, List.mem_of_getElem? (i := 759) (by decide +kernel), List.mem_of_getElem? (i := 1103) (by decide +kernel), List.mem_of_getElem? (i := 1104) (by decide +kernel)⟩
theorem lw_p36 : lw_okq (⟨"ChuteLoftModel", "isAhead", "(II)Z"⟩, 14) := ⟨⟨by decide +kernel, by decide +kernel⟩, List.mem_of_getElem? (i := 759) (by decide +kernel), List.mem_of_getElem? (i := 1107) (by decide +kernel), List.mem_of_getElem? (i := 1108) (by decide +kernel)⟩
theorem lw_p37 : lw_okq (⟨"ChuteLoftModel$Jump", "steer", "()V"⟩, 13) := ⟨⟨by decide +kernel, by decide +kernel⟩, List.mem_of_getElem? (i := 1111) (by decide +kernel), List.mem_of_getElem? (i := 1177) (by decide +kernel), List.mem_of_getElem? (i := 1178) (by decide +kernel)⟩
theorem lw_p38 : lw_okq (⟨"ChuteLoftModel$Jump", "forward", "()D"⟩, 13) := ⟨⟨by decide +kernel, by decide +kernel⟩, List.mem_of_getElem? (i := 1111) (by decide +kernel), List.mem_of_getElem? (i := 1191) (by decide +kernel), List.mem_of_getElem? (i := 1192) (by decide +kernel)⟩
theorem lw_p39 : lw_okq (⟨"ChuteLoftModel$Jump", "nearer", "(DD)D"⟩, 13) := ⟨⟨by decide +kernel, by decide +kernel⟩, List.mem_of_getElem? (i := 1111) (by decide +kernel), List.mem_of_getElem? (i := 1198) (by decide +kernel), List.mem_of_getElem? (i := 1199) (by decide +kernel)⟩
theorem lw_p40 : lw_okq (⟨"ChuteLoftModel$Jump", "stay", "()I"⟩, 13) := ⟨⟨by decide +kernel, by decide +kernel⟩, List.mem_of_getElem? (i := 1111) (by decide +kernel), List.mem_of_getElem? (i := 1211) (by decide +kernel), List.mem_of_getElem? (i := 1212) (by decide +kernel)⟩
theorem lw_p41 : lw_okq (⟨"ChuteLoftModel", "land", "(LChuteLoftModel$Jump;)V"⟩, 14) := ⟨⟨by decide +kernel, by decide +kernel⟩, List.mem_of_getElem? (i := 759) (by decide +kernel), List.mem_of_getElem? (i := 1222) (by decide +kernel), List.mem_of_getElem? (i := 1223) (by decide +kernel)⟩
theorem lw_p42 : lw_okq (⟨"ChuteLoftModel", "jumperNow", "(II)I"⟩, 14) := ⟨⟨by decide +kernel, by decide +kernel⟩, List.mem_of_getElem? (i := 759) (by decide +kernel), List.mem_of_getElem? (i := 1256) (by decide +kernel), List.mem_of_getElem? (i := 1257) (by decide +kernel)⟩
theorem lw_p43 : lw_okq (⟨"ChuteLoftModel", "rigNow", "(II)I"⟩, 14) := ⟨⟨by decide +kernel, by decide +kernel⟩, List.mem_of_getElem? (i := 759) (by decide +kernel), List.mem_of_getElem? (i := 1276) (by decide +kernel), List.mem_of_getElem? (i := 1277) (by decide +kernel)⟩
theorem lw_p44 : lw_okq (⟨"ChuteLoftModel", "manyNow", "(I)I"⟩, 14) := ⟨⟨by decide +kernel, by decide +kernel⟩, List.mem_of_getElem? (i := 759) (by decide +kernel), List.mem_of_getElem? (i := 1292) (by decide +kernel), List.mem_of_getElem? (i := 1293) (by decide +kernel)⟩
theorem lw_p45 : lw_okq (⟨"ChuteLoftModel", "refusal", "(IIII)I"⟩, 14) := ⟨⟨by decide +kernel, by decide +kernel⟩, List.mem_of_getElem? (i := 759) (by decide +kernel), List.mem_of_getElem? (i := 1304) (by decide +kernel), List.mem_of_getElem? (i := 1305) (by decide +kernel)⟩
theorem lw_p46 : lw_okq (⟨"ChuteLoftModel", "spotNow", "(I)I"⟩, 14) := ⟨⟨by decide +kernel, by decide +kernel⟩, List.mem_of_getElem? (i := 759) (by decide +kernel), List.mem_of_getElem? (i := 1316) (by decide +kernel), List.mem_of_getElem? (i := 1317) (by decide +kernel)⟩
theorem lw_p47 : lw_okq (⟨"ChuteLoftModel", "bestNow", "(I)I"⟩, 14) := ⟨⟨by decide +kernel, by decide +kernel⟩, List.mem_of_getElem? (i := 759) (by decide +kernel), List.mem_of_getElem? (i := 1328) (by decide +kernel), List.mem_of_getElem? (i := 1329) (by decide +kernel)⟩
def lw_privs_3 : List (MethodName × Nat) := [(⟨"ChuteLoftModel", "most", "(LChuteLoftModel$Jumper;)F"⟩, 14), (⟨"ChuteLoftModel", "flight", "(II)Ljava/util/List;"⟩, 14), (⟨"ChuteLoftModel", "at", "(I)I"⟩, 14), (⟨"ChuteLoftModel", "placeOf", "(I)I"⟩, 14), (⟨"ChuteLoftModel", "isAhead", "(II)Z"⟩, 14), (⟨"ChuteLoftModel$Jump", "steer", "()V"⟩, 13), (⟨"ChuteLoftModel$Jump", "forward", "()D"⟩, 13), (⟨"ChuteLoftModel$Jump", "nearer", "(DD)D"⟩, 13), (⟨"ChuteLoftModel$Jump", "stay", "()I"⟩, 13), (⟨"ChuteLoftModel", "land", "(LChuteLoftModel$Jump;)V"⟩, 14), (⟨"ChuteLoftModel", "jumperNow", "(II)I"⟩, 14), (⟨"ChuteLoftModel", "rigNow", "(II)I"⟩, 14), (⟨"ChuteLoftModel", "manyNow", "(I)I"⟩, 14), (⟨"ChuteLoftModel", "refusal", "(IIII)I"⟩, 14), (⟨"ChuteLoftModel", "spotNow", "(I)I"⟩, 14), (⟨"ChuteLoftModel", "bestNow", "(I)I"⟩, 14)]
theorem lw_r3 : ∀ q ∈ lw_privs_3, lw_okq q := List.forall_mem_cons.mpr ⟨lw_p32, List.forall_mem_cons.mpr ⟨lw_p33, List.forall_mem_cons.mpr ⟨lw_p34, List.forall_mem_cons.mpr ⟨lw_p35, List.forall_mem_cons.mpr ⟨lw_p36, List.forall_mem_cons.mpr ⟨lw_p37, List.forall_mem_cons.mpr ⟨lw_p38, List.forall_mem_cons.mpr ⟨lw_p39, List.forall_mem_cons.mpr ⟨lw_p40, List.forall_mem_cons.mpr ⟨lw_p41, List.forall_mem_cons.mpr ⟨lw_p42, List.forall_mem_cons.mpr ⟨lw_p43, List.forall_mem_cons.mpr ⟨lw_p44, List.forall_mem_cons.mpr ⟨lw_p45, List.forall_mem_cons.mpr ⟨lw_p46, List.forall_mem_cons.mpr ⟨lw_p47, fun _ h => absurd h List.not_mem_nil⟩⟩⟩⟩⟩⟩⟩⟩⟩⟩⟩⟩⟩⟩⟩⟩
def lw_privs : List (MethodName × Nat) := lw_privs_1 ++ (lw_privs_2 ++ (lw_privs_3))
def lw_tbl : List Cond := k2_sels lw_privs ++ tables_1
theorem lw_privs_ok : ∀ q ∈ lw_privs, lw_okq q := by
  show ∀ q ∈ lw_privs_1 ++ (lw_privs_2 ++ (lw_privs_3)), lw_okq q
  exact List.forall_mem_append.mpr ⟨lw_r1, List.forall_mem_append.mpr ⟨lw_r2, lw_r3⟩⟩
/-- the streams that the claim lets the run draw from -/
abbrev lw_cs : List Choice := [Jvm.Choice.named "NaN.bits", Jvm.Choice.named "NaN.copy"]
theorem lw_bits : nanBits ∈ lw_cs := by first | decide | exact List.mem_cons_self | simp [lw_cs, nanBits]
-- ===== end of PART A; then your names; then what follows =====
/-- wanting in the printed kit: the words of an array of arrays -/
def va_AOA (ty : FieldType) (U : State) : Prop := (Cond.arrayOver (.array ty)).before #[] U = true
theorem va_AOA.use {ty : FieldType} {A : Array Value} {U : State} (h : va_AOA ty U) : (Cond.arrayOver (.array ty)).before A U = true := h
/-! ===== BEGIN words of one list among another's, by their places ===== -/
theorem goodIn_r {big : List Cond} (ws : List Cond) (ps : List Nat) (hp : ws = ps.filterMap (fun i => big[i]?)) (h : ws.all goodWord = true) : GoodIn big ws := by
  intro w hw
  have h1 := List.all_eq_true.mp h w hw
  rw [hp] at hw
  obtain ⟨i, -, hi⟩ := List.mem_filterMap.mp hw
  have hm : w ∈ big := by first | exact List.mem_of_getElem? hi | exact List.getElem?_mem hi
  exact ⟨hm, good_of_word h1⟩
theorem goodIn_app {big a b : List Cond} (ha : GoodIn big a) (hb : GoodIn big b) : GoodIn big (a ++ b) := fun w h => (List.mem_append.mp h).elim (ha w) (hb w)
theorem goodIn_ca {big a b : List Cond} {c : Cond} (ha : GoodIn big (c :: a)) (hb : GoodIn big b) : GoodIn big (c :: (a ++ b)) := fun w h => (List.mem_cons.mp h).elim (fun e => ha w (List.mem_cons.mpr (Or.inl e))) (fun h => (List.mem_append.mp h).elim (fun h => ha w (List.mem_cons.mpr (Or.inr h))) (hb w))
theorem goodIn_sub {big ws : List Cond} (hm : ∀ w ∈ ws, w ∈ big) (h : ws.all goodWord = true) : GoodIn big ws := fun w hw => ⟨hm w hw, good_of_word (List.all_eq_true.mp h w hw)⟩
/-! ===== END ===== -/

/-! ===== BEGIN new T[n][m]: the outer array a place, the inner ones among the pooled ===== -/
/-- f, but v at every address of l -/
def vr_up {α : Type} (f : Nat → α) (l : List Nat) (v : α) : Nat → α := fun a => if a ∈ l then v else f a
theorem vr_up_in {α : Type} {f : Nat → α} {l : List Nat} {v : α} {a : Nat} (h : a ∈ l) : vr_up f l v a = v := if_pos h
theorem vr_up_ne {α : Type} {f : Nat → α} {l : List Nat} {v : α} {a : Nat} (h : a ∉ l) : vr_up f l v a = f a := if_neg h
theorem vr_rows {L l : List Nat} {f : Nat → va_E} {e : va_E} (h : ∀ a, a ∈ l → a ∉ L) : va_pl L f ++ l.map (fun a => (a, e)) = va_pl (L ++ l) (vr_up f l e) := by
  unfold va_pl
  rw [List.map_append]
  congr 1
  · apply List.map_congr_left
    intro a ha
    rw [vr_up_ne (fun q => h a q ha)]
  · apply List.map_congr_left
    intro a ha
    rw [vr_up_in ha]
theorem vr_lay {X rows : va_W} {x : Nat × va_E} {pl : va_W} {D : va_G} {cl : List vw_C} {H : Heap} (hP : va_P D cl (((X ++ pl) ++ [x]) ++ rows) H) : va_P D cl ((X ++ [x]) ++ (pl ++ rows)) H := by
  rw [List.append_assoc (X ++ pl)] at hP
  have h := va_P.swap hP
  rw [← List.append_assoc X] at h
  have h2 := va_P.swap h
  rw [List.append_assoc (X ++ [x])] at h2
  exact h2
theorem vr_layD {X rows : va_W} {x : Nat × va_E} {pl : va_W} {A : Nat → Prop} (hD : va_D A (((X ++ pl) ++ [x]) ++ rows)) : va_D A ((X ++ [x]) ++ (pl ++ rows)) := by
  rw [List.append_assoc (X ++ pl)] at hD
  have h := va_D.swap hD
  rw [← List.append_assoc X] at h
  have h2 := va_D.swap h
  rw [List.append_assoc (X ++ [x])] at h2
  exact h2
theorem vr_outer (c : ClassId) (N h0 : Nat) : ∀ i : Nat, Jvm.Free.Multi.outerC c N h0 i = arrV c N (fun j => va_rf (if j < i then some (h0 + 1 + j) else none))
  | 0 => by
    show ({ cls := c, slots := Array.replicate N .null, vm := .none } : Cell) = _
    rw [arrV_new]
    refine congrArg (arrV c N) (funext fun j => ?_)
    simp [va_rf]
  | i + 1 => by
    show (Jvm.Free.Multi.outerC c N h0 i).setSlot i (.ref (h0 + 1 + i)) = _
    rw [vr_outer c N h0 i, arrV_store]
    refine congrArg (arrV c N) (funext fun j => ?_)
    by_cases e : j = i
    · subst e
      simp [updV, va_rf]
    · by_cases h : j < i
      · simp [updV, e, h, Nat.lt_succ_of_lt h]
      · simp [updV, e, h, show ¬ j < i + 1 by omega]
section VGM
variable {p : Program} {l : Launch} {e : Env} {R : Room} {s : State} {m : MethodId} {args : Array Value} {below : List Frame} {meth : Method} {c : Code} {H : Heap} {locs : List Loc} {cells slots : Nat} {Q : State → Prop}
variable {cc : ByteArray} {pc : Nat} {ls : Array Slot} {rest : List Value} {D : va_G} {cl : List vw_C} {A : Nat → Prop} {a : Nat} {tys : List (ClassId × FieldType)} {ws : va_W} {H0 : Heap}
theorem va_mna {X : va_W} {L : List Nat} {f : Nat → va_E} {cc : ByteArray} (hexec : p.tables.exec = Jvm.exec) (hb : c.code = cc) {own : String} {index : Nat} {ty : FieldType} {cy : ClassId} (hown : s.vm.findClass own = some m.cls) (hclink : (Cond.classLink own index ("[" ++ (FieldType.array ty).toString)).before args s = true) (hover : va_AOA ty s) (harr : (Cond.arrayClass ty).before args s = true) (hcy : s.vm.findClass (FieldType.array ty).toString = some cy)
    (hK : va_K D cl tys s) (hP : va_P D cl (X ++ va_pl L f) H) (hD : va_D A (X ++ va_pl L f)) (hS : va_S A H0 H locs) (hA : ∀ q, H0.size ≤ q → A q) {n k : Int32} {N' K' : Nat} {z : vp_A} (hn : ¬ n < 0) (hk : ¬ k < 0) (hN : n.toNatClampNeg = N') (hM : k.toNatClampNeg = K')
    (hb1 : N' * 4 ≤ 536870912) (hb2 : K' * componentBytes ty ≤ 536870912) (hb3 : K' ≤ 536870912) (hdf : fits ty (defaultValue ty) = true) (hdd : (defaultValue ty).isDefault = true) (hcells : cells + (1 + N') ≤ R.cells) (hslots : slots + (N' + N' * K') ≤ R.slots) (hz : ∀ c : ClassId, Jvm.Free.Multi.innerC c K' (defaultValue ty) = vp_cell c z) (hdg : decode cc pc = .ok (.multianewarray index 2, 4))
    (kk : ∀ (q : Nat) (r : Nat → Nat) (cA : ClassId) (H1 : Heap), (∀ i j : Nat, i < N' → j < N' → r i = r j → i = j) → (∀ i : Nat, i < N' → r i ∉ L) → va_K D cl (tys ++ [(cA, .array ty)]) s →
      va_P D cl ((X ++ [(q, .inl (cA, N', .inr (.inr (.inr (.inr (fun i => if i < N' then some (r i) else none))))))]) ++ va_pl (L ++ (List.range N').map r) (vr_up f ((List.range N').map r) (.inl (cy, z)))) H1 → va_D A ((X ++ [(q, .inl (cA, N', .inr (.inr (.inr (.inr (fun i => if i < N' then some (r i) else none))))))]) ++ va_pl (L ++ (List.range N').map r) (vr_up f ((List.range N').map r) (.inl (cy, z)))) → va_S A H0 H1 locs →
      W p l e R s m args below meth c H1 locs (cells + 1 + N') (slots + N' + N' * K') Q (F0 m (pc + 4) ls (.ref q :: rest))) : W p l e R s m args below meth c H locs cells slots Q (F0 m pc ls (.int k :: .int n :: rest)) := by
  subst hN
  subst hM
  intro T hT Xs
  obtain ⟨vm₁, cA, comp, -, fA, fC, hO, -, X', step⟩ := Xs.multianewarray2F hexec hown hclink (va_AOA.use hover) harr (g := F0 m pc ls (.int k :: .int n :: rest)) rfl (by rw [hb]; exact hdg) rfl hn hk hb1 hb2 hb3 hdf hdd hcells hslots
  have ec : some cy = some comp := hcy.symm.trans fC
  cases ec
  generalize hF : Jvm.Free.Multi.fill (T.setVm vm₁) cA cy n.toNatClampNeg k.toNatClampNeg (defaultValue ty) n.toNatClampNeg = F at X' step
  have hTh : (T.setVm vm₁).heap = H := hT
  obtain ⟨f1, f2, -, -⟩ := Jvm.Free.Multi.fill_facts (T.setVm vm₁) cA cy n.toNatClampNeg k.toNatClampNeg (defaultValue ty) n.toNatClampNeg
  rw [hF, hTh] at f1 f2
  have hold : ∀ x : Nat, x < H.size → F.heap[x]? = H[x]? := fun x hx => by
    have := Jvm.Free.Multi.fill_old (T.setVm vm₁) cA cy n.toNatClampNeg k.toNatClampNeg (defaultValue ty) (a := x) (by rw [hTh]; exact hx) n.toNatClampNeg
    rw [hF, hTh] at this
    exact this
  have hrow : ∀ j : Nat, j < n.toNatClampNeg → F.heap[H.size + 1 + j]? = some (vp_cell cy z) := fun j hj => by
    have := Jvm.Free.Multi.fill_inner (T.setVm vm₁) cA cy n.toNatClampNeg k.toNatClampNeg (defaultValue ty) n.toNatClampNeg j hj
    rw [hF, hTh, hz] at this
    exact this
  have hout : Jvm.Free.Multi.outerC cA n.toNatClampNeg H.size n.toNatClampNeg = vp_cell cA (n.toNatClampNeg, .inr (.inr (.inr (.inr (fun i => if i < n.toNatClampNeg then some (H.size + 1 + i) else none))))) := by
    rw [vp_cell_q]
    exact vr_outer cA n.toNatClampNeg H.size n.toNatClampNeg
  rw [hout] at f2
  have hlt : ∀ a, a ∈ L → a < H.size := fun a ha => by
    obtain ⟨k9, hk9⟩ := va_pl_get (X := X) (f := f) ha
    exact (hP k9 _ hk9).lt
  have hnl : ∀ i : Nat, i < n.toNatClampNeg → H.size + 1 + i ∉ L := fun i _ h => by
    have := hlt _ h
    omega
  have hnm : ∀ a, a ∈ (List.range n.toNatClampNeg).map (fun i => H.size + 1 + i) → a ∉ L := fun a ha h => by
    obtain ⟨i, -, rfl⟩ := List.mem_map.mp ha
    have := hlt _ h
    omega
  have hP0 : va_P D cl (X ++ va_pl L f) F.heap := hP.kept (fun k9 x hx => hold x.1 ((hP k9 x hx).lt))
  have hP1 : va_P D cl ((X ++ va_pl L f) ++ [(H.size, .inl (cA, n.toNatClampNeg, .inr (.inr (.inr (.inr (fun i => if i < n.toNatClampNeg then some (H.size + 1 + i) else none))))))]) F.heap := hP0.app (fun k9 x hx => by
    have h0 : k9 < 1 := (List.getElem?_eq_some_iff.mp hx).1
    rw [show k9 = 0 by omega] at hx
    cases hx
    exact f2)
  have hP2 : va_P D cl (((X ++ va_pl L f) ++ [(H.size, .inl (cA, n.toNatClampNeg, .inr (.inr (.inr (.inr (fun i => if i < n.toNatClampNeg then some (H.size + 1 + i) else none))))))]) ++ ((List.range n.toNatClampNeg).map (fun i => H.size + 1 + i)).map (fun a => (a, .inl (cy, z)))) F.heap := hP1.app (fun k9 x hx => by
    obtain ⟨a, ha, rfl⟩ := List.mem_map.mp (List.mem_of_getElem? hx)
    obtain ⟨i, hi, rfl⟩ := List.mem_map.mp ha
    exact hrow i (List.mem_range.mp hi))
  have hD2 : va_D A (((X ++ va_pl L f) ++ [(H.size, .inl (cA, n.toNatClampNeg, .inr (.inr (.inr (.inr (fun i => if i < n.toNatClampNeg then some (H.size + 1 + i) else none))))))]) ++ ((List.range n.toNatClampNeg).map (fun i => H.size + 1 + i)).map (fun a => (a, .inl (cy, z)))) := by
    have hD1 := hD.push (e := .inl (cA, n.toNatClampNeg, .inr (.inr (.inr (.inr (fun i => if i < n.toNatClampNeg then some (H.size + 1 + i) else none)))))) hP rfl (hA _ hS.1)
    generalize hW1 : (X ++ va_pl L f) ++ [(H.size, .inl (cA, n.toNatClampNeg, .inr (.inr (.inr (.inr (fun i => if i < n.toNatClampNeg then some (H.size + 1 + i) else none))))))] = W1 at hD1 hP1 ⊢
    have hle : ∀ (k9 : Nat) (x : Nat × va_E), W1[k9]? = some x → x.1 ≤ H.size := fun k9 x hx => by
      rw [← hW1] at hx
      by_cases hl : k9 < (X ++ va_pl L f).length
      · rw [List.getElem?_append_left hl] at hx
        exact Nat.le_of_lt ((hP k9 x hx).lt)
      · rw [List.getElem?_append_right (by omega)] at hx
        have h0 : k9 - (X ++ va_pl L f).length < 1 := (List.getElem?_eq_some_iff.mp hx).1
        rw [show k9 - (X ++ va_pl L f).length = 0 by omega] at hx
        cases hx
        exact Nat.le_refl _
    have hr : ∀ (k9 : Nat) (x : Nat × va_E), (((List.range n.toNatClampNeg).map (fun i => H.size + 1 + i)).map (fun a => ((a, .inl (cy, z)) : Nat × va_E)))[k9]? = some x → x.1 = H.size + 1 + k9 := fun k9 x hx => by
      rw [List.getElem?_map, List.getElem?_map] at hx
      by_cases h9 : k9 < n.toNatClampNeg
      · rw [List.getElem?_range h9] at hx
        cases hx
        rfl
      · have hn0 : (List.range n.toNatClampNeg)[k9]? = none := List.getElem?_eq_none (by rw [List.length_range]; omega)
        rw [hn0] at hx
        cases hx
    refine ⟨fun i j x y hi hj hxy => ?_, fun k9 x hx => ?_⟩
    · by_cases h1 : i < W1.length <;> by_cases h2 : j < W1.length
      · rw [List.getElem?_append_left h1] at hi
        rw [List.getElem?_append_left h2] at hj
        exact hD1.1 i j x y hi hj hxy
      · rw [List.getElem?_append_left h1] at hi
        rw [List.getElem?_append_right (by omega)] at hj
        have := hle _ _ hi
        have := hr _ _ hj
        omega
      · rw [List.getElem?_append_right (by omega)] at hi
        rw [List.getElem?_append_left h2] at hj
        have := hle _ _ hj
        have := hr _ _ hi
        omega
      · rw [List.getElem?_append_right (by omega)] at hi hj
        have := hr _ _ hi
        have := hr _ _ hj
        omega
    · by_cases h1 : k9 < W1.length
      · rw [List.getElem?_append_left h1] at hx
        exact hD1.2 k9 x hx
      · rw [List.getElem?_append_right (by omega)] at hx
        have := hr _ _ hx
        exact hA _ (by have := hS.1; omega)
  have hAr : ArrOfT s cA (.array ty) := fun N9 z9 => by
    obtain ⟨-, k9, hk9, cm9, hkk9⟩ := (hO 0 0 0).1
    exact ⟨(fun q hq => by cases hq), k9, hk9, cm9, hkk9⟩
  have hK2 : va_K D cl (tys ++ [(cA, .array ty)]) s := ⟨hK.1, fun k9 x hx => by
    by_cases hl : k9 < tys.length
    · rw [List.getElem?_append_left hl] at hx
      exact hK.2 k9 x hx
    · rw [List.getElem?_append_right (by omega)] at hx
      have h0 : k9 - tys.length < 1 := (List.getElem?_eq_some_iff.mp hx).1
      rw [show k9 - tys.length = 0 by omega] at hx
      cases hx
      exact ⟨hAr, fA⟩⟩
  obtain ⟨t, a1, b1⟩ := kk H.size (fun i => H.size + 1 + i) cA F.heap (fun i j _ _ h => by have h9 : H.size + 1 + i = H.size + 1 + j := h; omega) hnl hK2 (by rw [← vr_rows hnm]; exact vr_lay hP2) (by rw [← vr_rows hnm]; exact vr_layD hD2) ⟨by rw [f1]; have := hS.1; omega, fun x h1 h2 => (hold x (Nat.lt_of_lt_of_le h1 hS.1)).trans (hS.2.1 x h1 h2), hS.2.2⟩ F rfl X'
  refine ⟨t, step t ?_, b1⟩
  have e : T.heap.size = H.size := by rw [hT]
  rw [e]
  exact a1
end VGM
/-! ===== END ===== -/

/-! ===== BEGIN exceptions that leave a method, and their catching by the caller (launches without stack traces) ===== -/
section VXA
/-! The laws vx_back, vx_callV, vx_callS, vx_callSW, vx_throw0, vx_throwS follow proofs of the library, with one case more: JvmDerived/Free/Laws.lean (Back.of_free), Shelf42/LK1.lean (callV, callS), Shelf/KitTraced.lean (throwNew0V, throwNewS). -/
/-- where a method has thrown q: the class by its name, the cell, what was written, the world -/
def vx_T (XC : String → State → State → Prop) (st : State) (q : Addr) (t : State) (mc ms : Nat) (free : Addr → Prop) : Prop :=
  ∃ (E : String) (ce : Cell) (L : List Loc), XC E st t ∧ t.heap[q]? = some ce ∧ ce.vm = .none ∧ st.vm.findClass E = some ce.cls ∧ st.WarmedH t.vm ∧ st.sameButNew ({ t with vm := st.vm } : State) L mc ms ∧ ∀ z ∈ L, free z.base
def vx_Q (Qc : Array Value → State → Outcome → State → Prop) (XC : String → State → State → Prop) (mc ms : Nat) (free : Addr → Prop) : Array Value → State → Outcome → State → Prop := fun a st o t =>
  (Qc a st o t ∧ ∃ L, FrameEnd st o t L mc ms ∧ ∀ q ∈ L, free q.base) ∨ ∃ q, o = .threw q ∧ vx_T XC st q t mc ms free
/-- a callee that returns or throws -/
def vx_Met (l : Launch) (y : MethodName) (ws : List Cond) (rm : Room) (Pc : Array Value → State → Prop) (Qc : Array Value → State → Outcome → State → Prop) (XC : String → State → State → Prop) (mc ms : Nat) (free : Addr → Prop) : Prop :=
  MetFree l y (headSpec ws rm) Pc (fun _ _ _ _ _ => True) (vx_Q Qc XC mc ms free)
def vx_Post (XC : String → State → State → Prop) (mc ms : Nat) (free : Addr → Prop) : Pt → Array Value → Addr → Pt → Prop := fun A a q B =>
  ∃ (g : JFrame) (mk : MethodId) (t : State) (L : List Loc) (E : String) (ce : Cell), B.U.heap = t.heap ∧ B.U.vm = t.vm ∧ XC E (A.U.calling g mk a) t ∧ t.heap[q]? = some ce ∧ ce.vm = .none ∧ A.U.vm.findClass E = some ce.cls ∧ B.locs = A.locs ++ L ∧ (∀ z ∈ L, free z.base) ∧ B.cells = A.cells + mc ∧ B.slots = A.slots + ms
def vx_Back (l : Launch) (R : Room) (p : Program) (e : Env) (below : List Frame) (s : State) (sargs : Array Value) (y : MethodName) (len W9 : Nat)
    (Pre : Pt → Array Value → Prop) (Post : Pt → Array Value → Option Value → Pt → Prop) (PostX : Pt → Array Value → Addr → Pt → Prop) : Prop :=
  ∀ (m : MethodId) (meth : Method) (c : Code) (A : Pt) (g : JFrame) (ig : Instr) (mk : MethodId) (a : Array Value),
    Stand p l e R s m sargs below meth c A.U A.locs A.cells A.slots → g.method = m → g.locals.size = c.maxLocals → decode c.code g.pc = .ok (ig, len) →
    2 * g.monitorRoom + (g.stack.map fun v => v.category).sum ≤ W9 → A.U.methodNamed? y = some mk → Pre A a →
    (∃ (v : Option Value) (B : Pt), Stand p l e R s m sargs below meth c B.U B.locs B.cells B.slots ∧ Post A a v B ∧
      Steps p.tables e below (doInvoke e (A.U.setTop g) [] mk a).1 (B.U.setTop { g with pc := g.pc + len, stack := v.toList ++ g.stack })) ∨
    (∃ (q : Addr) (B : Pt), Stand p l e R s m sargs below meth c B.U B.locs B.cells B.slots ∧ PostX A a q B ∧
      Steps p.tables e below (doInvoke e (A.U.setTop g) [] mk a).1 ((B.U.setTop g).pushFrame (.throwing q)))
section Payer
variable {l : Launch} {R : Room} {p : Program} {e : Env} {below : List Frame} {s : State} {sargs : Array Value} {y : MethodName} {len W9 : Nat}
theorem vx_back {ws : List Cond} {rm : Room} {Pc : Array Value → State → Prop} {Qc : Array Value → State → Outcome → State → Prop} {XC : String → State → State → Prop} {mc ms : Nat} {free : Addr → Prop} {bytes : ByteArray} {maxL : Nat} {ret : Option FieldType}
    (hM : vx_Met l y ws rm Pc Qc XC mc ms free) (hblind : FrameBlind Pc) (hrc : rm.cells = mc) (hrs : rm.slots = ms)
    (hframes : rm.frames + 1 ≤ R.frames) (hlocals : W9 + (maxL + 11) + rm.locals ≤ R.locals)
    (hws : ∀ w ∈ ws, ∀ a' U, s.WarmedH U.vm → w.before a' U = true) (hcode : Cond.code y bytes maxL ret ∈ ws) (hinit : ∀ a' U, s.WarmedH U.vm → (Cond.initialized y.cls).before a' U = true) :
    vx_Back l R p e below s sargs y len W9 (PreOf R mc ms Pc) (PostOf Qc mc ms free) (vx_Post XC mc ms free) := by
  intro m meth c A g ig mk a X hg hsize hdg hW hn hp
  have h1 : (headSpec ws rm).pre.before a A.U = true := atoms_intro fun w hw => hws w hw _ _ X.warmed
  have h2 : (Cond.code y bytes maxL ret).before a A.U = true := hws _ hcode _ _ X.warmed
  have h3 : (Cond.initialized y.cls).before a A.U = true := hinit _ _ X.warmed
  have h4 : A.cells + (headSpec ws rm).room.cells ≤ R.cells := by rw [show (headSpec ws rm).room.cells = mc from hrc]; exact hp.1
  have h5 : A.slots + (headSpec ws rm).room.slots ≤ R.slots := by rw [show (headSpec ws rm).room.slots = ms from hrs]; exact hp.2.1
  have hPc : Pc a (A.U.calling g mk a) := hblind _ _ _ _ hp.2.2
  obtain ⟨U, Ls, c0, s0⟩ := A
  dsimp only [Pt.U, Pt.locs, Pt.cells, Pt.slots] at h1 h2 h3 h4 h5 X hn hPc ⊢
  obtain ⟨methY, cY, hmY, hcY, -, hlY, -, -, -, -⟩ := Cond.code_spec hn h2
  obtain ⟨kY, hkY, -⟩ := className_of_methodNamed hn
  have hinitY : kY.init = .initialized := Cond.initialized_spec (findClass_of_methodNamed hn) hkY h3
  have h : At U g.method c below := by rw [hg]; exact X.here
  have hlocals9 : W9 + (maxL + 11) + (headSpec ws rm).room.locals ≤ R.locals := hlocals
  have happ : (headSpec ws rm).appliesLoose y e.platform (U.calling g mk a) = true :=
    Spec.appliesLoose_calling (g := g) h hdg hn hkY hinitY
      (X.room_calling (g := g) (R' := (headSpec ws rm).room) hsize hmY hcY hframes (by rw [hlY]; omega) h4 h5) h1
  obtain ⟨mid, hmid⟩ := h.above
  have hfr : (U.setTop g).frames = (.java g :: mid) ++ below := by rw [State.frames_setTop' g h.top, hmid]; rfl
  obtain ⟨o, s₂, hsteps, -, hend, hq⟩ := Steps.callFree hM p X.admits X.cas X.clock (acts := []) hfr happ hPc trivial
  have hq' : vx_Q Qc XC mc ms free a (U.calling g mk a) o s₂ := hq
  rw [State.frames_setTop' g h.top] at hend
  obtain ⟨g₀, hg0⟩ := Option.isSome_iff_exists.mp h.top
  obtain ⟨r, hr⟩ := State.topJava?_eq_some.mp hg0
  have hr' : (({ U with heap := s₂.heap, slotsUsed := s₂.slotsUsed } : State).setVm s₂.vm).frames = .java g₀ :: r := hr
  rcases hq' with ⟨hqc, L, hfe, hL⟩ | ⟨q, rfl, E, ce, L, hx, hce, hcv, hcl, hW₂, hsm, hL⟩
  · obtain ⟨⟨v, rfl⟩, hW₂, e2, q2, q3, q4, q5, q6⟩ := id hfe
    have e3 : s₂ = ({ (U.calling g mk a).setFrames s₂.frames with heap := s₂.heap, slotsUsed := s₂.slotsUsed } : State).setVm s₂.vm := by
      have : s₂ = ({ s₂ with vm := (U.calling g mk a).vm } : State).setVm s₂.vm := rfl
      rw [e2] at this
      exact this
    obtain ⟨c₂, i₂, len₂, hc₂, hd₂, hf₂⟩ := hend
    have hW' : U.WarmedH s₂.vm := hW₂
    have hcc : c₂ = c := by
      have h1 : s₂.code? g.method = U.code? g.method := by
        rw [State.code?_eq, State.code?_eq, hW'.alike.method?]
      exact Option.some.inj (hc₂.symm.trans (h1.trans h.code))
    subst hcc
    have hlen : len₂ = len := by rw [hdg] at hd₂; cases hd₂; rfl
    subst hlen
    have hs₂ : s₂ = (({ U with heap := s₂.heap, slotsUsed := s₂.slotsUsed } : State).setVm s₂.vm).setTop { g with pc := g.pc + len₂, stack := v.toList ++ g.stack } := by
      refine e3.trans ?_
      rw [hf₂, State.calling_eq h.top, State.setFrames_setFrames, State.setTop_of_frames _ hr', hr]
      rfl
    have hsame : U.sameButNew ({ U with heap := s₂.heap, slotsUsed := s₂.slotsUsed } : State) L mc ms := by
      refine ⟨?_, q2, q3, q4, q5, q6⟩
      obtain ⟨t, ht, -⟩ := State.frames_cons hr
      show ({ U with heap := s₂.heap, slotsUsed := s₂.slotsUsed } : State) = { U.setFrames U.frames with heap := s₂.heap, slotsUsed := s₂.slotsUsed }
      rw [State.setFrames_self ht]
    subst hg
    refine Or.inl ⟨v, ⟨(({ U with heap := s₂.heap, slotsUsed := s₂.slotsUsed } : State).setVm s₂.vm), Ls ++ L, c0 + mc, s0 + ms⟩,
      ⟨X.admits, X.cas, X.clock, X.frames, X.room, X.hears, X.method, X.code, (X.here.setHeapUsed s₂.heap s₂.slotsUsed).setVm hW'.alike, X.tail, State.WarmedH.trans X.warmed hW', X.limits, X.bytes, X.same.trans (hsame.setVm s.vm)⟩,
      ⟨g, mk, s₂, L, rfl, rfl, hqc, rfl, hL, rfl, rfl⟩, ?_⟩
    show Steps p.tables e below _ ((({ U with heap := s₂.heap, slotsUsed := s₂.slotsUsed } : State).setVm s₂.vm).setTop { g with pc := g.pc + len₂, stack := v.toList ++ g.stack })
    rw [← hs₂]
    exact hsteps
  · obtain ⟨e2, q2, q3, q4, q5, q6⟩ := id hsm
    have e3 : s₂ = ({ (U.calling g mk a).setFrames s₂.frames with heap := s₂.heap, slotsUsed := s₂.slotsUsed } : State).setVm s₂.vm := by
      have : s₂ = ({ s₂ with vm := (U.calling g mk a).vm } : State).setVm s₂.vm := rfl
      rw [e2] at this
      exact this
    have hf₂ : s₂.frames = .throwing q :: .java g :: U.frames.tail := hend
    have hW' : U.WarmedH s₂.vm := hW₂
    have hs₂ : s₂ = ((({ U with heap := s₂.heap, slotsUsed := s₂.slotsUsed } : State).setVm s₂.vm).setTop g).pushFrame (.throwing q) := by
      refine e3.trans ?_
      rw [hf₂, State.calling_eq h.top, State.setFrames_setFrames, State.pushFrame, State.frames_setTop _ hr', State.setTop_of_frames _ hr', State.setFrames_setFrames, hr]
      rfl
    have hsame : U.sameButNew ({ U with heap := s₂.heap, slotsUsed := s₂.slotsUsed } : State) L mc ms := by
      refine ⟨?_, q2, q3, q4, q5, q6⟩
      obtain ⟨t, ht, -⟩ := State.frames_cons hr
      show ({ U with heap := s₂.heap, slotsUsed := s₂.slotsUsed } : State) = { U.setFrames U.frames with heap := s₂.heap, slotsUsed := s₂.slotsUsed }
      rw [State.setFrames_self ht]
    subst hg
    refine Or.inr ⟨q, ⟨(({ U with heap := s₂.heap, slotsUsed := s₂.slotsUsed } : State).setVm s₂.vm), Ls ++ L, c0 + mc, s0 + ms⟩,
      ⟨X.admits, X.cas, X.clock, X.frames, X.room, X.hears, X.method, X.code, (X.here.setHeapUsed s₂.heap s₂.slotsUsed).setVm hW'.alike, X.tail, State.WarmedH.trans X.warmed hW', X.limits, X.bytes, X.same.trans (hsame.setVm s.vm)⟩,
      ⟨g, mk, s₂, L, E, ce, rfl, rfl, hx, hce, hcv, hcl, rfl, hL, rfl, rfl⟩, ?_⟩
    show Steps p.tables e below _ (((({ U with heap := s₂.heap, slotsUsed := s₂.slotsUsed } : State).setVm s₂.vm).setTop g).pushFrame (.throwing q))
    rw [← hs₂]
    exact hsteps
end Payer
section Calls
variable {p : Program} {l : Launch} {e : Env} {R : Room} {s : State} {m : MethodId} {args : Array Value} {below : List Frame} {meth : Method} {c : Code} {T : State} {locs : List Loc} {cells slots : Nat}
theorem vx_callV (X : Stand p l e R s m args below meth c T locs cells slots) (hexec : p.tables.exec = Jvm.exec) {own C : String} {index : Nat} {y : MethodName} {bytes : ByteArray} {maxL : Nat} {ret : Option FieldType}
    (hown : s.vm.findClass own = some m.cls) (hlink : (Cond.methodLink own index y).before args s = true) (hinst : (Cond.instanceMethod y).before args s = true) (hsel : (Cond.selects C y y).before args s = true)
    (hcode : (Cond.code y bytes maxL ret).before args s = true) (hy : y.cls ≠ "java/lang/invoke/MethodHandle" ∧ y.cls ≠ "java/lang/invoke/VarHandle")
    {W9 : Nat} {Pre : Pt → Array Value → Prop} {Post : Pt → Array Value → Option Value → Pt → Prop} {PostX : Pt → Array Value → Addr → Pt → Prop} (hK : vx_Back l R p e below s args y 3 W9 Pre Post PostX)
    {b : Addr} {cellB : Cell} (hcell : T.heap[b]? = some cellB) (hobj : cellB.vm.isStatics = false) (hcls : s.vm.findClass C = some cellB.cls)
    {g : JFrame} (hg : g.method = m) (hsize : g.locals.size = c.maxLocals) {argsL rest : List Value} (hlen : ∀ sig, parseMethodDescriptor y.desc = some sig → argsL.length = sig.parameters.length)
    (hstack : g.stack = argsL.reverse ++ .ref b :: rest) (hW : 2 * g.monitorRoom + (rest.map fun v => v.category).sum ≤ W9) (hdg : decode c.code g.pc = .ok (.invokevirtual index, 3))
    (hpre : ∀ vm₁, s.WarmedH vm₁ → Pre ⟨T.setVm vm₁, locs, cells, slots⟩ (Value.ref b :: argsL).toArray) :
    (∃ (v : Option Value) (vm₁ : Vm) (B : Pt), s.WarmedH vm₁ ∧ Stand p l e R s m args below meth c B.U B.locs B.cells B.slots ∧ Post ⟨T.setVm vm₁, locs, cells, slots⟩ (Value.ref b :: argsL).toArray v B ∧
      ∀ target, Steps p.tables e below (B.U.setTop { g with pc := g.pc + 3, stack := v.toList ++ rest }) target → Steps p.tables e below (T.setTop g) target) ∨
    (∃ (q : Addr) (vm₁ : Vm) (B : Pt), s.WarmedH vm₁ ∧ Stand p l e R s m args below meth c B.U B.locs B.cells B.slots ∧ PostX ⟨T.setVm vm₁, locs, cells, slots⟩ (Value.ref b :: argsL).toArray q B ∧
      Steps p.tables e below (T.setTop g) ((B.U.setTop { g with stack := rest }).pushFrame (.throwing q))) := by
  obtain ⟨mk, methM, hnamed, hmethM, hstM, habM⟩ := Cond.instanceMethod_spec hinst
  obtain ⟨methM', cM, hmethM', -, -, -, -, -, -, hsigM⟩ := Cond.code_spec hnamed hcode
  cases hmethM.symm.trans hmethM'
  obtain ⟨c2, r2, m2, q1, q2, q3, q4, kP, hkP, hkPi⟩ := Cond.selects_spec hsel
  cases hcls.symm.trans q1
  cases (State.methodFound?_of_named hnamed hy).symm.trans q2
  cases hnamed.symm.trans q3
  have hselP : selectMethod e.platform s.vm cellB.cls mk = .method mk := by rw [Launch.admits_selectMethod X.admits]; exact q4
  obtain ⟨vm₁, X₁, hstep₁⟩ := X.invokevirtual hexec hown hlink hnamed hmethM hstM hkP hkPi hy (a := b) (cell := cellB) hcell
    (fun z h => by rw [h] at hobj; cases hobj) hselP hmethM habM hkP hkPi (g := g) hg (argsL := argsL) (rest := rest) (hlen _ hsigM) hstack hdg
  rcases hK m meth c ⟨T.setVm vm₁, locs, cells, slots⟩ { g with stack := rest } (.invokevirtual index) mk (Value.ref b :: argsL).toArray X₁ hg hsize hdg hW (X₁.named hnamed) (hpre vm₁ X₁.warmed) with ⟨v, B, X', hpost, hsteps⟩ | ⟨q, B, X', hpost, hsteps⟩
  · exact Or.inl ⟨v, vm₁, B, X₁.warmed, X', hpost, fun target h => hstep₁ _ fun acts => by rw [doInvoke_state]; exact hsteps.trans h⟩
  · exact Or.inr ⟨q, vm₁, B, X₁.warmed, X', hpost, hstep₁ _ fun acts => by rw [doInvoke_state]; exact hsteps⟩
theorem vx_callS (X : Stand p l e R s m args below meth c T locs cells slots) (hexec : p.tables.exec = Jvm.exec) {own : String} {index : Nat} {y : MethodName} {bytes : ByteArray} {maxL : Nat} {ret : Option FieldType}
    (hown : s.vm.findClass own = some m.cls) (hlink : (Cond.methodLink own index y).before args s = true) (hstat : (Cond.static y).before args s = true) (hinit : (Cond.initialized y.cls).before args s = true)
    (hcode : (Cond.code y bytes maxL ret).before args s = true) (hy : y.cls ≠ "java/lang/invoke/MethodHandle" ∧ y.cls ≠ "java/lang/invoke/VarHandle")
    {W9 : Nat} {Pre : Pt → Array Value → Prop} {Post : Pt → Array Value → Option Value → Pt → Prop} {PostX : Pt → Array Value → Addr → Pt → Prop} (hK : vx_Back l R p e below s args y 3 W9 Pre Post PostX)
    {g : JFrame} (hg : g.method = m) (hsize : g.locals.size = c.maxLocals) {argsL rest : List Value} (hlen : ∀ sig, parseMethodDescriptor y.desc = some sig → argsL.length = sig.parameters.length)
    (hstack : g.stack = argsL.reverse ++ rest) (hW : 2 * g.monitorRoom + (rest.map fun v => v.category).sum ≤ W9) (hdg : decode c.code g.pc = .ok (.invokestatic index, 3))
    (hpre : ∀ vm₁, s.WarmedH vm₁ → Pre ⟨T.setVm vm₁, locs, cells, slots⟩ argsL.toArray) :
    (∃ (v : Option Value) (vm₁ : Vm) (B : Pt), s.WarmedH vm₁ ∧ Stand p l e R s m args below meth c B.U B.locs B.cells B.slots ∧ Post ⟨T.setVm vm₁, locs, cells, slots⟩ argsL.toArray v B ∧
      ∀ target, Steps p.tables e below (B.U.setTop { g with pc := g.pc + 3, stack := v.toList ++ rest }) target → Steps p.tables e below (T.setTop g) target) ∨
    (∃ (q : Addr) (vm₁ : Vm) (B : Pt), s.WarmedH vm₁ ∧ Stand p l e R s m args below meth c B.U B.locs B.cells B.slots ∧ PostX ⟨T.setVm vm₁, locs, cells, slots⟩ argsL.toArray q B ∧
      Steps p.tables e below (T.setTop g) ((B.U.setTop { g with stack := rest }).pushFrame (.throwing q))) := by
  obtain ⟨mk, hnamed⟩ := Cond.code_named hcode
  obtain ⟨methM, cM, hmethM, -, -, -, -, -, -, hsigM⟩ := Cond.code_spec hnamed hcode
  have hstatic : methM.isStatic = true := Cond.static_spec hnamed hmethM hstat
  obtain ⟨kP, hkP, -⟩ := className_of_methodNamed hnamed
  have hinitP : kP.init = .initialized := Cond.initialized_spec (findClass_of_methodNamed hnamed) hkP hinit
  obtain ⟨vm₁, X₁, hstep₁⟩ := X.invokestatic hexec hown hlink hnamed hmethM hstatic hkP hinitP hy (g := g) hg (argsL := argsL) (rest := rest) (hlen _ hsigM) hstack hdg
  rcases hK m meth c ⟨T.setVm vm₁, locs, cells, slots⟩ { g with stack := rest } (.invokestatic index) mk argsL.toArray X₁ hg hsize hdg hW (X₁.named hnamed) (hpre vm₁ X₁.warmed) with ⟨v, B, X', hpost, hsteps⟩ | ⟨q, B, X', hpost, hsteps⟩
  · exact Or.inl ⟨v, vm₁, B, X₁.warmed, X', hpost, fun target h => hstep₁ _ fun acts => by rw [doInvoke_state]; exact hsteps.trans h⟩
  · exact Or.inr ⟨q, vm₁, B, X₁.warmed, X', hpost, hstep₁ _ fun acts => by rw [doInvoke_state]; exact hsteps⟩
end Calls
theorem vx_cls {s : State} {T : State} {vm₁ : Vm} {E : String} {k : ClassId} (hW : s.WarmedH vm₁) (h : (T.setVm vm₁).vm.findClass E = some k) : s.vm.findClass E = some k := by
  have h1 : vm₁.findClass E = some k := h
  rw [hW.alike.findClass] at h1
  exact h1
/-- the method's frame g, with q thrown over it -/
def vx_W (p : Program) (l : Launch) (e : Env) (R : Room) (s : State) (m : MethodId) (args : Array Value) (below : List Frame) (meth : Method) (c : Code) (H : Heap) (locs : List Loc) (cells slots : Nat) (Q : State → Prop) (g : JFrame) (q : Addr) : Prop :=
  ∀ T : State, T.heap = H → Stand p l e R s m args below meth c T locs cells slots → ∃ t, Steps p.tables e below ((T.setTop g).pushFrame (.throwing q)) t ∧ Q t
def vx_Run (p : Program) (l : Launch) (e : Env) (R : Room) (s : State) (m : MethodId) (args : Array Value) (below : List Frame) (meth : Method) (c : Code) (H : Heap) (locs : List Loc) (cells slots mc ms : Nat) (g : JFrame) (rest : List Value) (Qa : State → Outcome → State → Prop) (XC : String → State → State → Prop) (free : Addr → Prop) : Prop :=
  ∀ T : State, T.heap = H → Stand p l e R s m args below meth c T locs cells slots →
    (∃ (v : Option Value) (st₀ t T' : State) (L : List Loc), st₀.heap = H ∧ Stand p l e R s m args below meth c T' (locs ++ L) (cells + mc) (slots + ms) ∧ (∀ q ∈ L, free q.base) ∧ T'.heap = t.heap ∧ T'.vm = t.vm ∧ Qa st₀ (.returned v) t ∧
      Goes p e below T g T' { g with pc := g.pc + 3, stack := v.toList ++ rest }) ∨
    (∃ (q : Addr) (st₀ t T' : State) (L : List Loc) (E : String) (ce : Cell), st₀.heap = H ∧ Stand p l e R s m args below meth c T' (locs ++ L) (cells + mc) (slots + ms) ∧ (∀ z ∈ L, free z.base) ∧ T'.heap = t.heap ∧ T'.vm = t.vm ∧ XC E st₀ t ∧ t.heap[q]? = some ce ∧ ce.vm = .none ∧ s.vm.findClass E = some ce.cls ∧
      Steps p.tables e below (T.setTop g) ((T'.setTop { g with stack := rest }).pushFrame (.throwing q)))
def vx_X {S : Type} (px : S → Prop) (B : String → S → State → Prop) (A : Nat → Prop) : String → State → State → Prop := fun E st t => ∃ u : S, px u ∧ B E u t ∧ va_F A st t
section Runs
variable {p : Program} {l : Launch} {e : Env} {R : Room} {s : State} {m : MethodId} {args : Array Value} {below : List Frame} {meth : Method} {c : Code} {H : Heap} {locs : List Loc} {cells slots : Nat}
variable {y : MethodName} {bytes cc : ByteArray} {maxL nL mc ms n index : Nat} {ret : Option FieldType} {ws : List Cond} {rm : Room} {Pc : Array Value → State → Prop} {Qc : Array Value → State → Outcome → State → Prop} {XC : String → State → State → Prop} {free : Addr → Prop} {Ts : List Cond} {own C : String} {b : Addr} {As rest : List Value} {g : JFrame}
theorem vx_callBack (cb : CallB R s args own index y bytes maxL ret ws rm mc ms n) (hM : vx_Met l y ws rm Pc Qc XC mc ms free) (hbl : FrameBlind Pc) : vx_Back l R p e below s args y 3 8 (PreOf R mc ms Pc) (PostOf Qc mc ms free) (vx_Post XC mc ms free) := by
  obtain ⟨hrc, hrs, hfr, hlo, hws, hcw, -, hini, -⟩ := cb
  exact vx_back (bytes := bytes) (maxL := maxL) (ret := ret) hM hbl hrc hrs hfr hlo hws hcw (fun a' U hW => word_at hW (Or.inl (by first | rfl | simp [Cond.onTables, Cond.keeps, Cond.steady])) hini)
theorem vx_runV (S : CallFix p m c cc nL s args Ts own) (hM : vx_Met l y ws rm Pc Qc XC mc ms free) (cw : CallW R s args own C index y bytes maxL ret ws rm mc ms n) (hp : PreV s H C b Pc As)
    (hg : g.method = m) (hn : As.length = n) (hsize : g.locals.size = nL) (hstack : g.stack = As.reverse ++ .ref b :: rest) (hW : 2 * g.monitorRoom + (rest.map fun v => v.category).sum ≤ 8) (hdg : decode cc g.pc = .ok (.invokevirtual index, 3)) (hf : cells + mc ≤ R.cells ∧ slots + ms ≤ R.slots) :
    vx_Run p l e R s m args below meth c H locs cells slots mc ms g rest (Qc (Value.ref b :: As).toArray) XC free := by
  have hK : vx_Back l R p e below s args y 3 8 (PreOf R mc ms Pc) (PostOf Qc mc ms free) (vx_Post XC mc ms free) := vx_callBack cw.1 hM hp.1
  obtain ⟨⟨-, -, -, -, -, -, hcode, -, hy, hlen, hl⟩, hin, hse⟩ := cw
  obtain ⟨hx, hb, hml, ho, -⟩ := S
  obtain ⟨-, ⟨cellB, hcB, hoB, hclB⟩, hPc⟩ := hp
  intro T hT X
  rcases vx_callV X hx (C := C) (bytes := bytes) (maxL := maxL) (ret := ret) ho hl hin hse hcode hy hK (by rw [hT]; exact hcB) hoB hclB hg (hsize.trans hml.symm) (argsL := As) (rest := rest) (fun sig h => hn.trans (hlen sig h)) hstack hW (by rw [hb]; exact hdg)
    (fun vm₁ hW₁ => ⟨hf.1, hf.2, hPc (T.setVm vm₁) hT hW₁⟩) with ⟨v, vm₁, ⟨U', l2, c2, s2⟩, hW₁, X', ⟨g', mk, t, L, e1, e2, hq, h1, hL, h2, h3⟩, st⟩ | ⟨q, vm₁, ⟨U', l2, c2, s2⟩, hW₁, X', ⟨g', mk, t, L, E, ce, e1, e2, hq, hce, hcv, hcl, h1, hL, h2, h3⟩, st⟩
  · dsimp only [Pt.U, Pt.locs, Pt.cells, Pt.slots] at X' e1 e2 h1 h2 h3 st
    subst h1; subst h2; subst h3
    exact Or.inl ⟨v, (T.setVm vm₁).calling g' mk (Value.ref b :: As).toArray, t, U', L, hT, X', hL, e1, e2, hq, st⟩
  · dsimp only [Pt.U, Pt.locs, Pt.cells, Pt.slots] at X' e1 e2 h1 h2 h3 st hcl
    subst h1; subst h2; subst h3
    exact Or.inr ⟨q, (T.setVm vm₁).calling g' mk (Value.ref b :: As).toArray, t, U', L, E, ce, hT, X', hL, e1, e2, hq, hce, hcv, vx_cls hW₁ hcl, st⟩
theorem vx_runS (S : CallFix p m c cc nL s args Ts own) (hM : vx_Met l y ws rm Pc Qc XC mc ms free) (cw : CallB R s args own index y bytes maxL ret ws rm mc ms n ∧ (Cond.static y).before args s = true) (hp : PreS s H Pc As)
    (hg : g.method = m) (hn : As.length = n) (hsize : g.locals.size = nL) (hstack : g.stack = As.reverse ++ rest) (hW : 2 * g.monitorRoom + (rest.map fun v => v.category).sum ≤ 8) (hdg : decode cc g.pc = .ok (.invokestatic index, 3)) (hf : cells + mc ≤ R.cells ∧ slots + ms ≤ R.slots) :
    vx_Run p l e R s m args below meth c H locs cells slots mc ms g rest (Qc As.toArray) XC free := by
  have hK : vx_Back l R p e below s args y 3 8 (PreOf R mc ms Pc) (PostOf Qc mc ms free) (vx_Post XC mc ms free) := vx_callBack cw.1 hM hp.1
  obtain ⟨⟨-, -, -, -, -, -, hcode, hini, hy, hlen, hl⟩, hstt⟩ := cw
  obtain ⟨hx, hb, hml, ho, -⟩ := S
  intro T hT X
  rcases vx_callS X hx (bytes := bytes) (maxL := maxL) (ret := ret) ho hl hstt hini hcode hy hK hg (hsize.trans hml.symm) (argsL := As) (rest := rest) (fun sig h => hn.trans (hlen sig h)) hstack hW (by rw [hb]; exact hdg)
    (fun vm₁ hW₁ => ⟨hf.1, hf.2, hp.2 (T.setVm vm₁) hT hW₁⟩) with ⟨v, vm₁, ⟨U', l2, c2, s2⟩, hW₁, X', ⟨g', mk, t, L, e1, e2, hq, h1, hL, h2, h3⟩, st⟩ | ⟨q, vm₁, ⟨U', l2, c2, s2⟩, hW₁, X', ⟨g', mk, t, L, E, ce, e1, e2, hq, hce, hcv, hcl, h1, hL, h2, h3⟩, st⟩
  · dsimp only [Pt.U, Pt.locs, Pt.cells, Pt.slots] at X' e1 e2 h1 h2 h3 st
    subst h1; subst h2; subst h3
    exact Or.inl ⟨v, (T.setVm vm₁).calling g' mk As.toArray, t, U', L, hT, X', hL, e1, e2, hq, st⟩
  · dsimp only [Pt.U, Pt.locs, Pt.cells, Pt.slots] at X' e1 e2 h1 h2 h3 st hcl
    subst h1; subst h2; subst h3
    exact Or.inr ⟨q, (T.setVm vm₁).calling g' mk As.toArray, t, U', L, E, ce, hT, X', hL, e1, e2, hq, hce, hcv, vx_cls hW₁ hcl, st⟩
end Runs
section Rows
variable {p : Program} {l : Launch} {e : Env} {R : Room} {s : State} {m : MethodId} {args : Array Value} {below : List Frame} {meth : Method} {c : Code} {H : Heap} {locs : List Loc} {cells slots : Nat} {Q : State → Prop}
variable {mc ms : Nat} {free : Addr → Prop} {A0 A1 : Nat → Prop} {H0 : Heap} {a : Array Value} {pc : Nat} {ls : Array Slot} {st0 rest : List Value}
theorem vx_keep {st₀ t T' : State} {L : List Loc} (h0 : st₀.heap = H) (e1 : T'.heap = t.heap) (hS : va_S A0 H0 H locs) (hA : ∀ q, q < H.size → A1 q → A0 q) (hf : ∀ q, free q → A0 q) (hL : ∀ q ∈ L, free q.base) (hF : va_F A1 st₀ t) :
    H.size ≤ T'.heap.size ∧ (∀ q : Nat, q < H.size → ¬ A1 q → T'.heap[q]? = H[q]?) ∧ va_S A0 H0 T'.heap (locs ++ L) := by
  obtain ⟨hz, hk⟩ := hF
  rw [h0] at hz hk
  exact ⟨by rw [e1]; exact hz, fun q h1 h2 => by rw [e1]; exact hk q h1 h2,
    ⟨Nat.le_trans hS.1 (by rw [e1]; exact hz), fun q h1 h2 => by rw [e1, hk q (Nat.lt_of_lt_of_le h1 hS.1) (fun z => h2 (hA q (Nat.lt_of_lt_of_le h1 hS.1) z))]; exact hS.2.1 q h1 h2, fun q hq => by
      rcases List.mem_append.mp hq with h | h
      · exact hS.2.2 q h
      · exact hf _ (hL q h)⟩⟩
theorem vx_calli {S SX : Type} {post : Int32 → S → Prop} {px : SX → Prop} {B : S → State → Prop} {BX : String → SX → State → Prop} {AX : Nat → Prop} (hr : vx_Run p l e R s m args below meth c H locs cells slots mc ms (F0 m pc ls st0) rest (va_Qi post B A1 a) (vx_X px BX AX) free) (hS : va_S A0 H0 H locs) (hA : ∀ q, q < H.size → A1 q → A0 q) (hf : ∀ q, free q → A0 q) (hAX : ∀ q, q < H.size → AX q → A0 q)
    (kx : ∀ (E : String) (ce : Cell) (q9 : Addr) (u : SX) (t : State) (H1 : Heap) (locs1 : List Loc), t.heap = H1 → s.vm.Alike t.vm → px u → BX E u t → H.size ≤ H1.size → (∀ q : Nat, q < H.size → ¬ AX q → H1[q]? = H[q]?) → va_S A0 H0 H1 locs1 → H1[q9]? = some ce → ce.vm = .none → s.vm.findClass E = some ce.cls → vx_W p l e R s m args below meth c H1 locs1 (cells + mc) (slots + ms) Q (F0 m pc ls rest) q9)
    (kk : ∀ (r : Int32) (u : S) (t : State) (H1 : Heap) (locs1 : List Loc), t.heap = H1 → s.vm.Alike t.vm → post r u → B u t → H.size ≤ H1.size → (∀ q : Nat, q < H.size → ¬ A1 q → H1[q]? = H[q]?) → va_S A0 H0 H1 locs1 → W p l e R s m args below meth c H1 locs1 (cells + mc) (slots + ms) Q (F0 m (pc + 3) ls (.int r :: rest))) : W p l e R s m args below meth c H locs cells slots Q (F0 m pc ls st0) := by
  intro T hT X
  rcases hr T hT X with ⟨v, st₀, t, T', L, h0, X', hL, e1, e2, ⟨⟨r, u, hv, hp, hb⟩, hF⟩, st⟩ | ⟨q, st₀, t, T', L, E, ce, h0, X', hL, e1, e2, ⟨u, hp, hb, hF⟩, hce, hcv, hcl, st⟩
  · cases hv
    obtain ⟨k1, k2, k3⟩ := vx_keep h0 e1 hS hA hf hL hF
    obtain ⟨t2, a1, b1⟩ := kk r u t T'.heap (locs ++ L) e1.symm (by rw [← e2]; exact X'.warmed.alike) hp hb k1 k2 k3 T' rfl X'
    exact ⟨t2, st t2 a1, b1⟩
  · obtain ⟨k1, k2, k3⟩ := vx_keep h0 e1 hS hAX hf hL hF
    obtain ⟨t2, a1, b1⟩ := kx E ce q u t T'.heap (locs ++ L) e1.symm (by rw [← e2]; exact X'.warmed.alike) hp hb k1 k2 k3 (by rw [e1]; exact hce) hcv hcl T' rfl X'
    exact ⟨t2, st.trans a1, b1⟩
theorem vx_calll {S SX : Type} {post : Int64 → S → Prop} {px : SX → Prop} {B : S → State → Prop} {BX : String → SX → State → Prop} {AX : Nat → Prop} (hr : vx_Run p l e R s m args below meth c H locs cells slots mc ms (F0 m pc ls st0) rest (va_Ql post B A1 a) (vx_X px BX AX) free) (hS : va_S A0 H0 H locs) (hA : ∀ q, q < H.size → A1 q → A0 q) (hf : ∀ q, free q → A0 q) (hAX : ∀ q, q < H.size → AX q → A0 q)
    (kx : ∀ (E : String) (ce : Cell) (q9 : Addr) (u : SX) (t : State) (H1 : Heap) (locs1 : List Loc), t.heap = H1 → s.vm.Alike t.vm → px u → BX E u t → H.size ≤ H1.size → (∀ q : Nat, q < H.size → ¬ AX q → H1[q]? = H[q]?) → va_S A0 H0 H1 locs1 → H1[q9]? = some ce → ce.vm = .none → s.vm.findClass E = some ce.cls → vx_W p l e R s m args below meth c H1 locs1 (cells + mc) (slots + ms) Q (F0 m pc ls rest) q9)
    (kk : ∀ (r : Int64) (u : S) (t : State) (H1 : Heap) (locs1 : List Loc), t.heap = H1 → s.vm.Alike t.vm → post r u → B u t → H.size ≤ H1.size → (∀ q : Nat, q < H.size → ¬ A1 q → H1[q]? = H[q]?) → va_S A0 H0 H1 locs1 → W p l e R s m args below meth c H1 locs1 (cells + mc) (slots + ms) Q (F0 m (pc + 3) ls (.long r :: rest))) : W p l e R s m args below meth c H locs cells slots Q (F0 m pc ls st0) := by
  intro T hT X
  rcases hr T hT X with ⟨v, st₀, t, T', L, h0, X', hL, e1, e2, ⟨⟨r, u, hv, hp, hb⟩, hF⟩, st⟩ | ⟨q, st₀, t, T', L, E, ce, h0, X', hL, e1, e2, ⟨u, hp, hb, hF⟩, hce, hcv, hcl, st⟩
  · cases hv
    obtain ⟨k1, k2, k3⟩ := vx_keep h0 e1 hS hA hf hL hF
    obtain ⟨t2, a1, b1⟩ := kk r u t T'.heap (locs ++ L) e1.symm (by rw [← e2]; exact X'.warmed.alike) hp hb k1 k2 k3 T' rfl X'
    exact ⟨t2, st t2 a1, b1⟩
  · obtain ⟨k1, k2, k3⟩ := vx_keep h0 e1 hS hAX hf hL hF
    obtain ⟨t2, a1, b1⟩ := kx E ce q u t T'.heap (locs ++ L) e1.symm (by rw [← e2]; exact X'.warmed.alike) hp hb k1 k2 k3 (by rw [e1]; exact hce) hcv hcl T' rfl X'
    exact ⟨t2, st.trans a1, b1⟩
theorem vx_callf {S SX : Type} {post : UInt32 → S → Prop} {px : SX → Prop} {B : S → State → Prop} {BX : String → SX → State → Prop} {AX : Nat → Prop} (hr : vx_Run p l e R s m args below meth c H locs cells slots mc ms (F0 m pc ls st0) rest (va_Qf post B A1 a) (vx_X px BX AX) free) (hS : va_S A0 H0 H locs) (hA : ∀ q, q < H.size → A1 q → A0 q) (hf : ∀ q, free q → A0 q) (hAX : ∀ q, q < H.size → AX q → A0 q)
    (kx : ∀ (E : String) (ce : Cell) (q9 : Addr) (u : SX) (t : State) (H1 : Heap) (locs1 : List Loc), t.heap = H1 → s.vm.Alike t.vm → px u → BX E u t → H.size ≤ H1.size → (∀ q : Nat, q < H.size → ¬ AX q → H1[q]? = H[q]?) → va_S A0 H0 H1 locs1 → H1[q9]? = some ce → ce.vm = .none → s.vm.findClass E = some ce.cls → vx_W p l e R s m args below meth c H1 locs1 (cells + mc) (slots + ms) Q (F0 m pc ls rest) q9)
    (kk : ∀ (r : UInt32) (u : S) (t : State) (H1 : Heap) (locs1 : List Loc), t.heap = H1 → s.vm.Alike t.vm → post r u → B u t → H.size ≤ H1.size → (∀ q : Nat, q < H.size → ¬ A1 q → H1[q]? = H[q]?) → va_S A0 H0 H1 locs1 → W p l e R s m args below meth c H1 locs1 (cells + mc) (slots + ms) Q (F0 m (pc + 3) ls (.float r :: rest))) : W p l e R s m args below meth c H locs cells slots Q (F0 m pc ls st0) := by
  intro T hT X
  rcases hr T hT X with ⟨v, st₀, t, T', L, h0, X', hL, e1, e2, ⟨⟨r, u, hv, hp, hb⟩, hF⟩, st⟩ | ⟨q, st₀, t, T', L, E, ce, h0, X', hL, e1, e2, ⟨u, hp, hb, hF⟩, hce, hcv, hcl, st⟩
  · cases hv
    obtain ⟨k1, k2, k3⟩ := vx_keep h0 e1 hS hA hf hL hF
    obtain ⟨t2, a1, b1⟩ := kk r u t T'.heap (locs ++ L) e1.symm (by rw [← e2]; exact X'.warmed.alike) hp hb k1 k2 k3 T' rfl X'
    exact ⟨t2, st t2 a1, b1⟩
  · obtain ⟨k1, k2, k3⟩ := vx_keep h0 e1 hS hAX hf hL hF
    obtain ⟨t2, a1, b1⟩ := kx E ce q u t T'.heap (locs ++ L) e1.symm (by rw [← e2]; exact X'.warmed.alike) hp hb k1 k2 k3 (by rw [e1]; exact hce) hcv hcl T' rfl X'
    exact ⟨t2, st.trans a1, b1⟩
theorem vx_calld {S SX : Type} {post : UInt64 → S → Prop} {px : SX → Prop} {B : S → State → Prop} {BX : String → SX → State → Prop} {AX : Nat → Prop} (hr : vx_Run p l e R s m args below meth c H locs cells slots mc ms (F0 m pc ls st0) rest (va_Qd post B A1 a) (vx_X px BX AX) free) (hS : va_S A0 H0 H locs) (hA : ∀ q, q < H.size → A1 q → A0 q) (hf : ∀ q, free q → A0 q) (hAX : ∀ q, q < H.size → AX q → A0 q)
    (kx : ∀ (E : String) (ce : Cell) (q9 : Addr) (u : SX) (t : State) (H1 : Heap) (locs1 : List Loc), t.heap = H1 → s.vm.Alike t.vm → px u → BX E u t → H.size ≤ H1.size → (∀ q : Nat, q < H.size → ¬ AX q → H1[q]? = H[q]?) → va_S A0 H0 H1 locs1 → H1[q9]? = some ce → ce.vm = .none → s.vm.findClass E = some ce.cls → vx_W p l e R s m args below meth c H1 locs1 (cells + mc) (slots + ms) Q (F0 m pc ls rest) q9)
    (kk : ∀ (r : UInt64) (u : S) (t : State) (H1 : Heap) (locs1 : List Loc), t.heap = H1 → s.vm.Alike t.vm → post r u → B u t → H.size ≤ H1.size → (∀ q : Nat, q < H.size → ¬ A1 q → H1[q]? = H[q]?) → va_S A0 H0 H1 locs1 → W p l e R s m args below meth c H1 locs1 (cells + mc) (slots + ms) Q (F0 m (pc + 3) ls (.double r :: rest))) : W p l e R s m args below meth c H locs cells slots Q (F0 m pc ls st0) := by
  intro T hT X
  rcases hr T hT X with ⟨v, st₀, t, T', L, h0, X', hL, e1, e2, ⟨⟨r, u, hv, hp, hb⟩, hF⟩, st⟩ | ⟨q, st₀, t, T', L, E, ce, h0, X', hL, e1, e2, ⟨u, hp, hb, hF⟩, hce, hcv, hcl, st⟩
  · cases hv
    obtain ⟨k1, k2, k3⟩ := vx_keep h0 e1 hS hA hf hL hF
    obtain ⟨t2, a1, b1⟩ := kk r u t T'.heap (locs ++ L) e1.symm (by rw [← e2]; exact X'.warmed.alike) hp hb k1 k2 k3 T' rfl X'
    exact ⟨t2, st t2 a1, b1⟩
  · obtain ⟨k1, k2, k3⟩ := vx_keep h0 e1 hS hAX hf hL hF
    obtain ⟨t2, a1, b1⟩ := kx E ce q u t T'.heap (locs ++ L) e1.symm (by rw [← e2]; exact X'.warmed.alike) hp hb k1 k2 k3 (by rw [e1]; exact hce) hcv hcl T' rfl X'
    exact ⟨t2, st.trans a1, b1⟩
theorem vx_callv {S SX : Type} {post : S → Prop} {px : SX → Prop} {B : S → State → Prop} {BX : String → SX → State → Prop} {AX : Nat → Prop} (hr : vx_Run p l e R s m args below meth c H locs cells slots mc ms (F0 m pc ls st0) rest (va_Qv post B A1 a) (vx_X px BX AX) free) (hS : va_S A0 H0 H locs) (hA : ∀ q, q < H.size → A1 q → A0 q) (hf : ∀ q, free q → A0 q) (hAX : ∀ q, q < H.size → AX q → A0 q)
    (kx : ∀ (E : String) (ce : Cell) (q9 : Addr) (u : SX) (t : State) (H1 : Heap) (locs1 : List Loc), t.heap = H1 → s.vm.Alike t.vm → px u → BX E u t → H.size ≤ H1.size → (∀ q : Nat, q < H.size → ¬ AX q → H1[q]? = H[q]?) → va_S A0 H0 H1 locs1 → H1[q9]? = some ce → ce.vm = .none → s.vm.findClass E = some ce.cls → vx_W p l e R s m args below meth c H1 locs1 (cells + mc) (slots + ms) Q (F0 m pc ls rest) q9)
    (kk : ∀ (u : S) (t : State) (H1 : Heap) (locs1 : List Loc), t.heap = H1 → s.vm.Alike t.vm → post u → B u t → H.size ≤ H1.size → (∀ q : Nat, q < H.size → ¬ A1 q → H1[q]? = H[q]?) → va_S A0 H0 H1 locs1 → W p l e R s m args below meth c H1 locs1 (cells + mc) (slots + ms) Q (F0 m (pc + 3) ls (rest))) : W p l e R s m args below meth c H locs cells slots Q (F0 m pc ls st0) := by
  intro T hT X
  rcases hr T hT X with ⟨v, st₀, t, T', L, h0, X', hL, e1, e2, ⟨⟨u, hv, hp, hb⟩, hF⟩, st⟩ | ⟨q, st₀, t, T', L, E, ce, h0, X', hL, e1, e2, ⟨u, hp, hb, hF⟩, hce, hcv, hcl, st⟩
  · cases hv
    obtain ⟨k1, k2, k3⟩ := vx_keep h0 e1 hS hA hf hL hF
    obtain ⟨t2, a1, b1⟩ := kk u t T'.heap (locs ++ L) e1.symm (by rw [← e2]; exact X'.warmed.alike) hp hb k1 k2 k3 T' rfl X'
    exact ⟨t2, st t2 a1, b1⟩
  · obtain ⟨k1, k2, k3⟩ := vx_keep h0 e1 hS hAX hf hL hF
    obtain ⟨t2, a1, b1⟩ := kx E ce q u t T'.heap (locs ++ L) e1.symm (by rw [← e2]; exact X'.warmed.alike) hp hb k1 k2 k3 (by rw [e1]; exact hce) hcv hcl T' rfl X'
    exact ⟨t2, st.trans a1, b1⟩
/-- caught by the row x of this method's table; the rows ahead don't take it -/
theorem vx_catch {own name : String} {E : String} {ce : Cell} {q : Addr} (hown : s.vm.findClass own = some m.cls) (pre : List ExceptionTableEntry) (x : ExceptionTableEntry) (suf : List ExceptionTableEntry) (hsplit : c.exceptionTable.toList = pre ++ x :: suf)
    (hpass : ∀ z ∈ pre, covers z pc = false ∨ (z.catchType ≠ 0 ∧ ∃ nm : String, (Cond.classLink own z.catchType nm).before args s = true ∧ va_Nc E nm s)) (hx : covers x pc = true) (h0 : x.catchType ≠ 0)
    (hlink : (Cond.classLink own x.catchType name).before args s = true) (hcast : (Cond.castable E name).before args s = true) (hcell : H[q]? = some ce) (hv : ce.vm = .none) (hcl : s.vm.findClass E = some ce.cls)
    (kk : W p l e R s m args below meth c H locs cells slots Q (F0 m x.handlerPc ls [.ref q])) : vx_W p l e R s m args below meth c H locs cells slots Q (F0 m pc ls rest) q := by
  intro T hT X
  have hpl : e.platform.magicAccessors = ({} : Platform).magicAccessors := by rw [X.admits.platform]
  obtain ⟨c3, c4, hc3, hc4, hasg⟩ := Cond.castable_spec hcast
  cases Option.some.inj (hc3.symm.trans hcl)
  obtain ⟨c5, hc5, hcl5⟩ := Cond.classLink_spec hown hlink e.platform hpl
  cases Option.some.inj (hc4.symm.trans hc5)
  obtain ⟨vm', X', st⟩ := X.thenCaughtThrough q (g := F0 m pc ls rest) rfl (Steps.refl _) (by rw [hT]; exact hcell) (by rw [hv]; rfl) (by obtain ⟨k9, h9, -⟩ := Vm.findClass_spec hcl; exact ⟨k9, h9⟩) pre x suf hsplit
    (fun z hz => by
      rcases hpass z hz with h | ⟨hz0, nm, hl1, hn1⟩
      · exact Or.inl h
      · obtain ⟨c6, hc6, hcl6⟩ := Cond.classLink_spec hown hl1 e.platform hpl
        obtain ⟨a8, b8, h1, h2, h3⟩ := hn1
        cases Option.some.inj (h1.symm.trans hcl)
        cases Option.some.inj (h2.symm.trans hc6)
        exact Or.inr ⟨hz0, _, hcl6, h3⟩) hx (Or.inr ⟨h0, c4, hcl5, hasg⟩)
  obtain ⟨t, a1, b1⟩ := kk (T.setVm vm') hT X'
  exact ⟨t, st.trans a1, b1⟩
end Rows
section Ends
variable {p : Program} {l : Launch} {e : Env} {R : Room} {s : State} {m : MethodId} {args : Array Value} {below : List Frame} {meth : Method} {c : Code} {H : Heap} {locs : List Loc} {cells slots : Nat} {Q : State → Prop}
variable {mc ms : Nat} {free : Addr → Prop} {A0 A1 : Nat → Prop} {H0 : Heap} {a : Array Value} {ls : Array Slot} {st0 rest : List Value}
variable {Qc : Array Value → State → Outcome → State → Prop} {XC : String → State → State → Prop}
/-- what a body that may throw owes at its end -/
def vx_MQ (below : List Frame) (Qc : Array Value → State → Outcome → State → Prop) (XC : String → State → State → Prop) (a : Array Value) (s : State) (mc ms : Nat) (free : Addr → Prop) : State → Prop := fun t =>
  ∃ o, t.status = .running ∧ Ended t below o ∧ vx_Q Qc XC mc ms free a s o t
theorem vx_ret {g : JFrame} {mc ms : Nat} (k : W p l e R s m args below meth c H locs cells slots (MQ below Qc args s mc ms free) g) : W p l e R s m args below meth c H locs cells slots (vx_MQ below Qc XC args s mc ms free) g := by
  intro T hT X
  obtain ⟨t, a1, o, b1, b2, b3, b4⟩ := k T hT X
  exact ⟨t, a1, o, b1, b2, Or.inl ⟨b3, b4⟩⟩
/-- not caught here: it goes on to the caller -/
theorem vx_widen {g : JFrame} {q : Addr} {k n : Nat} (h1 : cells ≤ k) (h2 : slots ≤ n) (kk : vx_W p l e R s m args below meth c H locs k n Q g q) : vx_W p l e R s m args below meth c H locs cells slots Q g q := fun T hT X => kk T hT (stand_widen X h1 h2)
theorem vx_out {pc : Nat} {E : String} {ce : Cell} {q : Addr} {mc ms : Nat} (hout : ∀ x ∈ c.exceptionTable.toList, covers x pc = false) (hlocks : meth.locks = false) (hcell : H[q]? = some ce) (hv : ce.vm = .none) (hcl : s.vm.findClass E = some ce.cls)
    (hx : ∀ t : State, t.heap = H → s.vm.Alike t.vm → XC E s t) (hf : ∀ z ∈ locs, free z.base) (hc : cells ≤ mc) (hs : slots ≤ ms) :
    vx_W p l e R s m args below meth c H locs cells slots (vx_MQ below Qc XC args s mc ms free) (F0 m pc ls rest) q := by
  intro T hT X
  obtain ⟨st1, hrun, hend, hW, hsm⟩ := X.leaveThrown q (g := F0 m pc ls rest) rfl rfl rfl hout hlocks
  have hcell9 : (T.setFrames (.throwing q :: below)).heap[q]? = some ce := by
    show T.heap[q]? = some ce
    rw [hT]; exact hcell
  exact ⟨_, st1, .threw q, hrun, hend, Or.inr ⟨q, rfl, E, ce, locs, hx _ hT hW.alike, hcell9, hv, hcl, hW, hsm.mono hc hs, hf⟩⟩
theorem vx_frame {U : State} {k n : Nat} (h : s.sameButNew ({ U with vm := s.vm } : State) locs k n) : s.heap.size ≤ U.heap.size ∧ ∀ q : Nat, q < s.heap.size → (∀ z ∈ locs, z.base ≠ q) → U.heap[q]? = s.heap[q]? := by
  obtain ⟨-, h2, -, -, -, h6⟩ := h
  refine ⟨h2, fun q hq hz => ?_⟩
  obtain ⟨c9, e1, e2, e3, e4⟩ := h6 q _ (Array.getElem?_eq_getElem hq)
  have hs : c9.slots = (s.heap[q]).slots := Array.ext_getElem? fun i => e4 i fun hm => hz _ hm rfl
  have h9 : c9 = s.heap[q] := by
    rw [hs] at e2
    exact e2
  have e5 : U.heap[q]? = some c9 := e1
  rw [e5, h9, Array.getElem?_eq_getElem hq]
/-- the words of a throw but the four that speak of the heap -/
def vx_no (w : Cond) : Bool := decide (w ≠ .isRef (.static Bundle.tN "UNASSIGNED_STACK" Bundle.steD)) && decide (w ≠ .isRef (.static Bundle.tN "SUPPRESSED_SENTINEL" Bundle.listD)) && decide (w ≠ .laysStatic Bundle.tN "UNASSIGNED_STACK" Bundle.steD) && decide (w ≠ .laysStatic Bundle.tN "SUPPRESSED_SENTINEL" Bundle.listD)
def vx_at0 (own : String) (ic : Nat) (X : String) (names : List String) : List Cond := (Bundle.ownAtoms0 own ic X names).filter vx_no
def vx_atS (own : String) (ic : Nat) (X : String) (names : List String) : List Cond := (Bundle.ownAtoms own ic X names).filter vx_no
/-- a word that the tables alone decide, or a good one -/
def vx_ot (w : Cond) : Bool := w.onTables || goodWord w
theorem vx_ot_at {args a' : Array Value} {s U : State} {w : Cond} (hW : s.WarmedH U.vm) (hvm : s.vm = U.vm) (hg : vx_ot w = true) (h : w.before args s = true) : w.before a' U = true := by
  simp only [vx_ot, Bool.or_eq_true] at hg
  rcases hg with hg | hg
  · exact va_tabs hg hvm h
  · exact word_at hW (good_of_word hg) h
/-- a list's words: the good ones out of the method's own list, the others by premises of their own -/
theorem vx_hat {args : Array Value} {s : State} {L B : List Cond} (h1 : ∀ w ∈ L.filter goodWord, w.before args s = true) (h2 : ∀ w ∈ L.filter (fun w => !goodWord w), w ∈ B) (h3 : ∀ w ∈ B, w.before args s = true) : ∀ w ∈ L, w.before args s = true := by
  intro w hw
  by_cases g : goodWord w = true
  · exact h1 w (List.mem_filter.mpr ⟨hw, g⟩)
  · refine h3 w (h2 w (List.mem_filter.mpr ⟨hw, ?_⟩))
    show (!goodWord w) = true
    cases hgw : goodWord w
    · rfl
    · exact absurd hgw g
theorem vx_c {args : Array Value} {s : State} {w : Cond} {B : List Cond} (h : w.before args s = true) (t : ∀ w ∈ B, w.before args s = true) : ∀ w' ∈ w :: B, w'.before args s = true := fun w' h' => (List.mem_cons.mp h').elim (fun e => by rw [e]; exact h) (t w')
theorem vx_n {args : Array Value} {s : State} : ∀ w ∈ ([] : List Cond), w.before args s = true := fun _ h => nomatch h
theorem vx_own {args : Array Value} {s : State} {L : List Cond} (h1 : ∀ w ∈ L.filter vx_no, w.before args s = true)
    (hU : (Cond.isRef (.static Bundle.tN "UNASSIGNED_STACK" Bundle.steD)).before args s = true) (hN : (Cond.isRef (.static Bundle.tN "SUPPRESSED_SENTINEL" Bundle.listD)).before args s = true)
    (lU : (Cond.laysStatic Bundle.tN "UNASSIGNED_STACK" Bundle.steD).before args s = true) (lN : (Cond.laysStatic Bundle.tN "SUPPRESSED_SENTINEL" Bundle.listD).before args s = true) : ∀ w ∈ L, w.before args s = true := by
  intro w hw
  by_cases e1 : w = .isRef (.static Bundle.tN "UNASSIGNED_STACK" Bundle.steD)
  · rw [e1]; exact hU
  · by_cases e2 : w = .isRef (.static Bundle.tN "SUPPRESSED_SENTINEL" Bundle.listD)
    · rw [e2]; exact hN
    · by_cases e3 : w = .laysStatic Bundle.tN "UNASSIGNED_STACK" Bundle.steD
      · rw [e3]; exact lU
      · by_cases e4 : w = .laysStatic Bundle.tN "SUPPRESSED_SENTINEL" Bundle.listD
        · rw [e4]; exact lN
        · exact h1 w (List.mem_filter.mpr ⟨hw, by unfold vx_no; rw [decide_eq_true e1, decide_eq_true e2, decide_eq_true e3, decide_eq_true e4]; rfl⟩)
/-- where a static field lies, its class's statics cell in H -/
def vx_L (C n d : String) (A : Nat → Prop) (U : State) (H : Heap) : Prop := ∃ (c : ClassId) (k : Class) (i : Nat) (f : Field) (a : Nat) (cell : Cell), U.vm.findClass C = some c ∧ U.fieldFound? C n d = some (c, k, i, f) ∧ f.isStatic = true ∧ k.statics = some a ∧ H[a]? = some cell ∧ cell.vm.isStatics = true ∧ cell.cls = c ∧ f.slot < cell.slots.size ∧ k.staticTypes[f.slot]? = some f.type ∧ ¬ A a
theorem vx_L.moved {C n d : String} {A : Nat → Prop} {u U : State} {H : Heap} (hvm : u.vm.Alike U.vm) (h : vx_L C n d A u H) : vx_L C n d A U H := by
  obtain ⟨c, k, i, f, a, cell, h1, h2, h3, h4, h5, h6, h7, h8, h9, h10⟩ := h
  obtain ⟨k', hi', he⟩ := State.fieldFound?_setVm hvm h2
  exact ⟨c, k', i, f, a, cell, by rw [hvm.findClass]; exact h1, hi', h3, by rw [he]; exact h4, h5, h6, h7, h8, by rw [he]; exact h9, h10⟩
theorem vx_L.kept {C n d : String} {A : Nat → Prop} {U : State} {H H1 : Heap} (h : vx_L C n d A U H) (hq : ∀ a : Nat, a < H.size → ¬ A a → H1[a]? = H[a]?) : vx_L C n d A U H1 := by
  obtain ⟨c, k, i, f, a, cell, h1, h2, h3, h4, h5, h6, h7, h8, h9, h10⟩ := h
  exact ⟨c, k, i, f, a, cell, h1, h2, h3, h4, by rw [hq a (Array.getElem?_eq_some_iff.mp h5).1 h10]; exact h5, h6, h7, h8, h9, h10⟩
theorem vx_L.narrow {C n d : String} {A B : Nat → Prop} {U : State} {H : Heap} (h : vx_L C n d A U H) (hAB : ∀ q, B q → A q) : vx_L C n d B U H := by
  obtain ⟨c, k, i, f, a, cell, h1, h2, h3, h4, h5, h6, h7, h8, h9, h10⟩ := h
  exact ⟨c, k, i, f, a, cell, h1, h2, h3, h4, h5, h6, h7, h8, h9, fun z => h10 (hAB _ z)⟩
theorem vx_L.word {C n d : String} {A : Nat → Prop} {s : State} {args : Array Value} (h : vx_L C n d A s s.heap) : (Cond.laysStatic C n d).before args s = true := by
  obtain ⟨c, k, i, f, a, cell, h1, h2, h3, h4, h5, h6, h7, h8, h9, -⟩ := h
  show (Cond.laysStatic C n d).holds args s none s [] = true
  exact Cond.laysStatic_of h1 h2 h3 h4 h5 h6 h7 h8 h9
/-- .. and what it holds: null or some reference -/
def vx_Zq (C n d : String) (A : Nat → Prop) (U : State) (H : Heap) : Prop := va_Zq C n d A U H ∧ vx_L C n d A U H
theorem vx_Zq.moved {C n d : String} {A : Nat → Prop} {u U : State} {H : Heap} (hvm : u.vm.Alike U.vm) (h : vx_Zq C n d A u H) : vx_Zq C n d A U H := ⟨va_Zq.moved hvm h.1, vx_L.moved hvm h.2⟩
theorem vx_Zq.kept {C n d : String} {A : Nat → Prop} {U : State} {H H1 : Heap} (h : vx_Zq C n d A U H) (hq : ∀ a : Nat, a < H.size → ¬ A a → H1[a]? = H[a]?) : vx_Zq C n d A U H1 := ⟨va_Zq.kept h.1 hq, vx_L.kept h.2 hq⟩
theorem vx_Zq.narrow {C n d : String} {A B : Nat → Prop} {U : State} {H : Heap} (h : vx_Zq C n d A U H) (hAB : ∀ q, B q → A q) : vx_Zq C n d B U H := ⟨va_Zq.narrow h.1 hAB, vx_L.narrow h.2 hAB⟩
theorem vx_Zqof {args : Array Value} {s : State} {C n d : String} {A : Nat → Prop} (hl : (Cond.laysStatic C n d).before args s = true) (hini : (Cond.initialized C).before args s = true) (h : (Cond.isRef (.static C n d)).before args s = true) (hA : ∀ a : Nat, a < s.heap.size → ¬ A a) : vx_Zq C n d A s s.heap := by
  refine ⟨va_Zqof hl hini h hA, ?_⟩
  obtain ⟨c, k, i, f, a, cell, h1, h2, h3, h4, h5, h6, h7, h8, h9⟩ := Cond.laysStatic_spec hl
  exact ⟨c, k, i, f, a, cell, h1, h2, h3, h4, h5, h6, h7, h8, h9, hA a (Array.getElem?_eq_some_iff.mp h5).1⟩
theorem vx_isRef {C n d : String} {v : Value} {A : Nat → Prop} {s : State} {args : Array Value} (h : va_Z C n d v A s s.heap) (hv : v.isRef = true) : (Cond.isRef (.static C n d)).before args s = true := by
  obtain ⟨cf, kf, fi, f, a, cell, h1, h2, h3, h4, h5, h6, h7, -⟩ := h
  have he : (Term.static C n d).eval args s none [] s = some v := by
    simp [Term.eval, State.fieldNamed?, h1, h2, h4, h5, h6, h7]
  simp only [Cond.before, Cond.holds, Cond.value, he]
  cases v <;> simp_all [Value.isRef]
theorem vx_isRefq {C n d : String} {A : Nat → Prop} {s : State} {args : Array Value} (h : va_Zq C n d A s s.heap) : (Cond.isRef (.static C n d)).before args s = true := by
  rcases h with h | ⟨t, h⟩
  · exact vx_isRef h rfl
  · exact vx_isRef h rfl
/-- the same frame, seen from here: as if the method were called anew in this heap -/
theorem vx_rebase {T : State} (X : Stand p l e R s m args below meth c T locs cells slots) {R' : Room} (hf : R'.frames ≤ R.frames) (hl : R'.locals ≤ R.locals) (hc : cells + R'.cells ≤ R.cells) (hs : slots + R'.slots ≤ R.slots) :
    Stand p l e R' ((T.setVm s.vm).setFrames (.invoking m args :: below)) m args below meth c T [] 0 0 := by
  have htop : (T.setVm s.vm).topJava?.isSome := X.here.top
  have hF : ((T.setVm s.vm).setFrames (.invoking m args :: below)).frames = .invoking m args :: below := State.frames_setFrames _ (State.cur_lt_of_top htop)
  obtain ⟨g₀, hg0⟩ := Option.isSome_iff_exists.mp htop
  obtain ⟨r, hr⟩ := State.topJava?_eq_some.mp hg0
  have hl9 : e.platform.stackLimits (T.setVm s.vm).me = e.platform.stackLimits s.me := X.limits
  have hb9 : (T.setVm s.vm).me.stackBytes = s.me.stackBytes := X.bytes
  refine ⟨X.admits, X.cas, X.clock, hF, ?_, X.hears, X.method, X.code, X.here, X.tail, X.warmed, ?_, ?_, ?_⟩
  · have h := X.room
    have hU : ((T.setVm s.vm).setFrames (.invoking m args :: below)).localsInUse = s.localsInUse := by
      rw [State.localsInUse_invoking hF (meth := meth) (c := c) X.method X.code, State.localsInUse_invoking X.frames X.method X.code]
    simp only [State.hasRoom, Bool.and_eq_true, decide_eq_true_eq] at h ⊢
    obtain ⟨⟨⟨⟨h1, h2, h3, h4, h5, h6⟩, h7⟩, h8⟩, h9⟩ := h
    rw [X.frames, List.length_cons] at h2 h3
    have q1 := X.heapSize
    have q2 := X.used
    simp only [hF, hU, List.length_cons, State.stackLimits_setFrames, State.stackBytes_setFrames, hl9, hb9]
    refine ⟨⟨⟨⟨by omega, by omega, by omega, by omega, by omega, h6⟩, ?_⟩, ?_⟩, X.book⟩
    · show T.heap.size + R'.cells ≤ e.platform.maxCells
      omega
    · show T.slotsUsed + R'.slots ≤ e.platform.maxSlots
      omega
  · rw [State.stackLimits_setFrames]; rfl
  · rw [State.stackBytes_setFrames]; rfl
  · refine ⟨?_, Nat.le_refl _, Nat.le_refl _, ?_, ?_, fun a c9 h9 => ⟨c9, h9, rfl, rfl, fun _ _ => rfl⟩⟩
    · obtain ⟨t, ht, -⟩ := State.frames_cons hr
      show T.setVm s.vm = { ((T.setVm s.vm).setFrames (.invoking m args :: below)).setFrames (T.setVm s.vm).frames with heap := T.heap, slotsUsed := T.slotsUsed }
      rw [State.setFrames_setFrames, State.setFrames_self ht]
      rfl
    · show T.slotsUsed = T.slotsUsed + ((T.heap.toList.drop T.heap.size).map (·.slots.size)).sum
      rw [List.drop_eq_nil_of_le (Nat.le_of_eq Array.length_toList)]
      rfl
    · show ((T.heap.toList.drop T.heap.size).map (·.slots.size)).sum ≤ 0
      rw [List.drop_eq_nil_of_le (Nat.le_of_eq Array.length_toList)]
      exact Nat.le_refl _
/-- 'throw new E()': new; dup; invokespecial; athrow -/
theorem vx_throw0 {cc : ByteArray} {pc : Nat} (hexec : p.tables.exec = Jvm.exec) (hb : c.code = cc) (hl : l.stackTraces = false) {own cls : String} {names : List String} {ik ic mc ms : Nat} {A : Nat → Prop}
    (hown : s.vm.findClass own = some m.cls) (hcls : Bundle.fit cls = true) (hnames : ∀ n ∈ names, Bundle.fit n = true)
    (hk : (Cond.classLink own ik cls).before args s = true) (hini : (Cond.initialized cls).before args s = true) (hat : ∀ w ∈ vx_at0 own ic cls names, w.before args s = true)
    (hgood : ∀ w ∈ Cond.classLink own ik cls :: Cond.initialized cls :: vx_at0 own ic cls names, vx_ot w = true)
    (hU : vx_Zq Bundle.tN "UNASSIGNED_STACK" Bundle.steD A s s.heap) (hN : vx_Zq Bundle.tN "SUPPRESSED_SENTINEL" Bundle.listD A s s.heap) (hS : va_S A s.heap H locs) (hsize : ls.size = c.maxLocals)
    (d0 : decode cc pc = .ok (.new ik, 3)) (d3 : decode cc (pc + 3) = .ok (.dup, 1)) (d4 : decode cc (pc + 4) = .ok (.invokespecial ic, 3)) (d7 : decode cc (pc + 7) = .ok (.athrow, 1))
    (hout : ∀ x ∈ c.exceptionTable.toList, covers x (pc + 7) = false)
    (hRframes : names.length + 3 < R.frames) (hRlocals : (rest.map fun v => v.category).sum + (13 * (names.length + 1) + 42) ≤ R.locals) (hRcells : cells + 1 ≤ R.cells) (hRslots : slots + 6 ≤ R.slots) (hlocks : meth.locks = false)
    (hx : ∀ t : State, s.vm.Alike t.vm → H.size ≤ t.heap.size → (∀ q : Nat, q < H.size → t.heap[q]? = H[q]?) → XC cls s t)
    (hf : ∀ z ∈ locs, free z.base) (hc : cells + 1 ≤ mc) (hs : slots + 6 ≤ ms) :
    W p l e R s m args below meth c H locs cells slots (vx_MQ below Qc XC args s mc ms free) (F0 m pc ls rest) := by
  intro T hT X
  have htr : e.platform.stackTraces = false := (show e.platform.stackTraces = l.stackTraces by rw [X.admits.platform]).trans hl
  have Y := vx_rebase X (R' := { frames := R.frames, locals := R.locals, cells := 1, slots := 6 }) (Nat.le_refl _) (Nat.le_refl _) hRcells hRslots
  obtain ⟨s', hA⟩ : ∃ z, z = (T.setVm s.vm).setFrames (.invoking m args :: below) := ⟨_, rfl⟩
  rw [← hA] at Y
  have hvm : s'.vm = s.vm := by rw [hA]; rfl
  have hhp : s'.heap = H := by rw [hA]; exact hT
  have hW0 : s.WarmedH s'.vm := by rw [hvm]; exact State.WarmedH.refl s
  have hat' : ∀ w ∈ vx_at0 own ic cls names, w.before args s' = true := fun w hw => vx_ot_at hW0 hvm.symm (hgood w (List.mem_cons_of_mem _ (List.mem_cons_of_mem _ hw))) (hat w hw)
  have hk' : (Cond.classLink own ik cls).before args s' = true := vx_ot_at hW0 hvm.symm (hgood _ List.mem_cons_self) hk
  have hini' : (Cond.initialized cls).before args s' = true := vx_ot_at hW0 hvm.symm (hgood _ (List.mem_cons_of_mem _ List.mem_cons_self)) hini
  have hU' : vx_Zq Bundle.tN "UNASSIGNED_STACK" Bundle.steD A s' s'.heap := by rw [hhp]; exact vx_Zq.moved hW0.alike (hU.kept hS.2.1)
  have hN' : vx_Zq Bundle.tN "SUPPRESSED_SENTINEL" Bundle.listD A s' s'.heap := by rw [hhp]; exact vx_Zq.moved hW0.alike (hN.kept hS.2.1)
  have h : ∀ w ∈ Bundle.ownAtoms0 own ic cls names, w.before args s' = true := vx_own hat' (vx_isRefq hU'.1) (vx_isRefq hN'.1) hU'.2.word hN'.2.word
  have hown' : s'.vm.findClass own = some m.cls := by rw [hvm]; exact hown
  have hins : (Cond.instantiable cls 6).before args s' = true := h _ (by simp [Bundle.ownAtoms0])
  obtain ⟨vm₁, cX, kX, hfX, hkX, -, -, X₁, st1⟩ := Y.newCold hexec (own := own) (C := cls) (index := ik) (n := 6) hown' hk' hins hini'
    (g := F0 m pc ls rest) rfl (by rw [hb]; exact d0) (Nat.le_refl _) (Nat.le_refl _)
  generalize hT1 : (T.setVm vm₁).pushCell { cls := cX, slots := kX.instanceTypes.map defaultValue, vm := .none } = T1 at X₁ st1
  have hcat : (Value.ref T.heap.size).category = 1 := rfl
  have hcellA : T1.heap[T.heap.size]? = some (freshCell cX kX) := by rw [← hT1]; exact State.heap_pushCell_size _ _
  have d3' : decode c.code (pc + 3) = .ok (.dup, 1) := by rw [hb]; exact d3
  obtain ⟨U, hsteps, hrun, hend, hW, hsame, ce, hce, hO⟩ := X₁.ctorThrow0 hexec htr (own := own) (cls := cls) (names := names) (ic := ic) hown' hcls hnames h (fun x hx => nomatch hx) hfX hkX hcellA (by rw [hhp, hT]; exact Nat.le_refl _)
    (g := { method := m, pc := pc + 4, locals := ls, stack := .ref T.heap.size :: .ref T.heap.size :: rest, locked := none }) rfl hsize rfl rfl (rest := rest) rfl
    (by rw [hb]; exact d4) (by rw [hb]; exact d7) hout hRframes (by simp only [List.map_cons, List.sum_cons, hcat]; omega) hlocks
  obtain ⟨f1, f2⟩ := vx_frame hsame
  rw [hhp] at f1 f2
  have hWs : s.WarmedH U.vm := State.WarmedH.trans hW0 hW
  have hcl : s.vm.findClass cls = some ce.cls := by
    have h9 := hO.cls
    rw [hvm] at h9
    exact h9
  have hall : s.sameButNew ({ U with vm := s.vm } : State) locs mc ms := by
    subst hA
    obtain ⟨e1, e2⟩ := hsame
    rw [State.setFrames_setFrames] at e1
    have h2 : (T.setVm s.vm).sameButNew ({ U with vm := s.vm } : State) [] (0 + 1) (0 + 6) := ⟨e1, e2⟩
    have h3 := X.same.trans h2
    rw [List.append_nil] at h3
    exact h3.mono hc hs
  refine ⟨U, ?_, .threw T.heap.size, hrun, hend, Or.inr ⟨T.heap.size, rfl, cls, ce, locs, hx U hWs.alike f1 (fun q hq => f2 q hq (fun z hz => nomatch hz)), hce, hO.vm, hcl, hWs, hall, hf⟩⟩
  refine st1 _ ?_
  show Steps p.tables e below (T1.setTop { method := m, pc := pc + 3, locals := ls, stack := .ref T.heap.size :: rest, locked := none }) _
  jvm_step X₁.here [X₁.here.top, hexec, d3', Value.category]
  exact hsteps
/-- 'throw new E("text")': new; dup; ldc; invokespecial; athrow -/
theorem vx_throwS {cc : ByteArray} {pc : Nat} (hexec : p.tables.exec = Jvm.exec) (hb : c.code = cc) (hl : l.stackTraces = false) {own cls text : String} {names : List String} {ik is ic mc ms sa : Nat} {A : Nat → Prop}
    (hown : s.vm.findClass own = some m.cls) (hcls : Bundle.fit cls = true) (hnames : ∀ n ∈ names, Bundle.fit n = true)
    (hk : (Cond.classLink own ik cls).before args s = true) (hini : (Cond.initialized cls).before args s = true) (hstr : vk_R own is text sa s) (hat : ∀ w ∈ vx_atS own ic cls names, w.before args s = true)
    (hgood : ∀ w ∈ Cond.classLink own ik cls :: Cond.initialized cls :: vx_atS own ic cls names, vx_ot w = true)
    (hU : vx_Zq Bundle.tN "UNASSIGNED_STACK" Bundle.steD A s s.heap) (hN : vx_Zq Bundle.tN "SUPPRESSED_SENTINEL" Bundle.listD A s s.heap) (hS : va_S A s.heap H locs) (hsize : ls.size = c.maxLocals)
    (d0 : decode cc pc = .ok (.new ik, 3)) (d3 : decode cc (pc + 3) = .ok (.dup, 1)) (d4 : decode cc (pc + 4) = .ok (.ldc is, 2)) (d6 : decode cc (pc + 6) = .ok (.invokespecial ic, 3)) (d9 : decode cc (pc + 9) = .ok (.athrow, 1))
    (hout : ∀ x ∈ c.exceptionTable.toList, covers x (pc + 9) = false)
    (hRframes : names.length + 3 < R.frames) (hRlocals : (rest.map fun v => v.category).sum + (13 * (names.length + 1) + 43) ≤ R.locals) (hRcells : cells + 1 ≤ R.cells) (hRslots : slots + 6 ≤ R.slots) (hlocks : meth.locks = false)
    (hx : ∀ t : State, s.vm.Alike t.vm → H.size ≤ t.heap.size → (∀ q : Nat, q < H.size → t.heap[q]? = H[q]?) → XC cls s t)
    (hf : ∀ z ∈ locs, free z.base) (hc : cells + 1 ≤ mc) (hs : slots + 6 ≤ ms) :
    W p l e R s m args below meth c H locs cells slots (vx_MQ below Qc XC args s mc ms free) (F0 m pc ls rest) := by
  intro T hT X
  have htr : e.platform.stackTraces = false := (show e.platform.stackTraces = l.stackTraces by rw [X.admits.platform]).trans hl
  have Y := vx_rebase X (R' := { frames := R.frames, locals := R.locals, cells := 1, slots := 6 }) (Nat.le_refl _) (Nat.le_refl _) hRcells hRslots
  obtain ⟨s', hA⟩ : ∃ z, z = (T.setVm s.vm).setFrames (.invoking m args :: below) := ⟨_, rfl⟩
  rw [← hA] at Y
  have hvm : s'.vm = s.vm := by rw [hA]; rfl
  have hhp : s'.heap = H := by rw [hA]; exact hT
  have hW0 : s.WarmedH s'.vm := by rw [hvm]; exact State.WarmedH.refl s
  have hat' : ∀ w ∈ vx_atS own ic cls names, w.before args s' = true := fun w hw => vx_ot_at hW0 hvm.symm (hgood w (List.mem_cons_of_mem _ (List.mem_cons_of_mem _ hw))) (hat w hw)
  have hk' : (Cond.classLink own ik cls).before args s' = true := vx_ot_at hW0 hvm.symm (hgood _ List.mem_cons_self) hk
  have hini' : (Cond.initialized cls).before args s' = true := vx_ot_at hW0 hvm.symm (hgood _ (List.mem_cons_of_mem _ List.mem_cons_self)) hini
  have hU' : vx_Zq Bundle.tN "UNASSIGNED_STACK" Bundle.steD A s' s'.heap := by rw [hhp]; exact vx_Zq.moved hW0.alike (hU.kept hS.2.1)
  have hN' : vx_Zq Bundle.tN "SUPPRESSED_SENTINEL" Bundle.listD A s' s'.heap := by rw [hhp]; exact vx_Zq.moved hW0.alike (hN.kept hS.2.1)
  have h : ∀ w ∈ Bundle.ownAtoms own ic cls names, w.before args s' = true := vx_own hat' (vx_isRefq hU'.1) (vx_isRefq hN'.1) hU'.2.word hN'.2.word
  have hown' : s'.vm.findClass own = some m.cls := by rw [hvm]; exact hown
  have hins : (Cond.instantiable cls 6).before args s' = true := h _ (by simp [Bundle.ownAtoms])
  obtain ⟨vm₁, cX, kX, hfX, hkX, -, -, X₁, st1⟩ := Y.newCold hexec (own := own) (C := cls) (index := ik) (n := 6) hown' hk' hins hini'
    (g := F0 m pc ls rest) rfl (by rw [hb]; exact d0) (Nat.le_refl _) (Nat.le_refl _)
  generalize hT1 : (T.setVm vm₁).pushCell { cls := cX, slots := kX.instanceTypes.map defaultValue, vm := .none } = T1 at X₁ st1
  have hcat : (Value.ref T.heap.size).category = 1 := rfl
  have hcellA : T1.heap[T.heap.size]? = some (freshCell cX kX) := by rw [← hT1]; exact State.heap_pushCell_size _ _
  have d3' : decode c.code (pc + 3) = .ok (.dup, 1) := by rw [hb]; exact d3
  have d4' : decode c.code (pc + 4) = .ok (.ldc is, 2) := by rw [hb]; exact d4
  have hstr' : vk_R own is text sa s' := vk_R.warm hW0 hstr
  obtain ⟨U, hsteps, hrun, hend, hW, hsame, ce, hce, hO⟩ := X₁.ctorThrowS hexec htr (own := own) (cls := cls) (names := names) (ic := ic) hown' hcls hnames h (fun x hx => nomatch hx) hfX hkX hcellA (by rw [hhp, hT]; exact Nat.le_refl _) (msg := .ref sa) rfl
    (g := { method := m, pc := pc + 6, locals := ls, stack := .ref sa :: .ref T.heap.size :: .ref T.heap.size :: rest, locked := none }) rfl hsize rfl rfl (rest := rest) rfl
    (by rw [hb]; exact d6) (by rw [hb]; exact d9) hout hRframes (by simp only [List.map_cons, List.sum_cons, hcat]; omega) hlocks
  obtain ⟨f1, f2⟩ := vx_frame hsame
  rw [hhp] at f1 f2
  have hWs : s.WarmedH U.vm := State.WarmedH.trans hW0 hW
  have hcl : s.vm.findClass cls = some ce.cls := by
    have h9 := hO.cls
    rw [hvm] at h9
    exact h9
  have hall : s.sameButNew ({ U with vm := s.vm } : State) locs mc ms := by
    subst hA
    obtain ⟨e1, e2⟩ := hsame
    rw [State.setFrames_setFrames] at e1
    have h2 : (T.setVm s.vm).sameButNew ({ U with vm := s.vm } : State) [] (0 + 1) (0 + 6) := ⟨e1, e2⟩
    have h3 := X.same.trans h2
    rw [List.append_nil] at h3
    exact h3.mono hc hs
  refine ⟨U, ?_, .threw T.heap.size, hrun, hend, Or.inr ⟨T.heap.size, rfl, cls, ce, locs, hx U hWs.alike f1 (fun q hq => f2 q hq (fun z hz => nomatch hz)), hce, hO.vm, hcl, hWs, hall, hf⟩⟩
  refine st1 _ ?_
  show Steps p.tables e below (T1.setTop { method := m, pc := pc + 3, locals := ls, stack := .ref T.heap.size :: rest, locked := none }) _
  jvm_step X₁.here [X₁.here.top, hexec, d3', Value.category]
  exact X₁.ldcString hexec (own := own) (text := text) (index := is) (a := sa) hown' hstr'.1 hstr'.2
    (g := { method := m, pc := pc + 4, locals := ls, stack := .ref T.heap.size :: .ref T.heap.size :: rest, locked := none }) rfl d4' _ hsteps
/-- 'throw new E("text")', the text by a wide index -/
theorem vx_throwSW {cc : ByteArray} {pc : Nat} (hexec : p.tables.exec = Jvm.exec) (hb : c.code = cc) (hl : l.stackTraces = false) {own cls text : String} {names : List String} {ik is ic mc ms sa : Nat} {A : Nat → Prop}
    (hown : s.vm.findClass own = some m.cls) (hcls : Bundle.fit cls = true) (hnames : ∀ n ∈ names, Bundle.fit n = true)
    (hk : (Cond.classLink own ik cls).before args s = true) (hini : (Cond.initialized cls).before args s = true) (hstr : vk_R own is text sa s) (hat : ∀ w ∈ vx_atS own ic cls names, w.before args s = true)
    (hgood : ∀ w ∈ Cond.classLink own ik cls :: Cond.initialized cls :: vx_atS own ic cls names, vx_ot w = true)
    (hU : vx_Zq Bundle.tN "UNASSIGNED_STACK" Bundle.steD A s s.heap) (hN : vx_Zq Bundle.tN "SUPPRESSED_SENTINEL" Bundle.listD A s s.heap) (hS : va_S A s.heap H locs) (hsize : ls.size = c.maxLocals)
    (d0 : decode cc pc = .ok (.new ik, 3)) (d3 : decode cc (pc + 3) = .ok (.dup, 1)) (d4 : decode cc (pc + 4) = .ok (.ldc_w is, 3)) (d7 : decode cc (pc + 7) = .ok (.invokespecial ic, 3)) (d10 : decode cc (pc + 10) = .ok (.athrow, 1))
    (hout : ∀ x ∈ c.exceptionTable.toList, covers x (pc + 10) = false)
    (hRframes : names.length + 3 < R.frames) (hRlocals : (rest.map fun v => v.category).sum + (13 * (names.length + 1) + 43) ≤ R.locals) (hRcells : cells + 1 ≤ R.cells) (hRslots : slots + 6 ≤ R.slots) (hlocks : meth.locks = false)
    (hx : ∀ t : State, s.vm.Alike t.vm → H.size ≤ t.heap.size → (∀ q : Nat, q < H.size → t.heap[q]? = H[q]?) → XC cls s t)
    (hf : ∀ z ∈ locs, free z.base) (hc : cells + 1 ≤ mc) (hs : slots + 6 ≤ ms) :
    W p l e R s m args below meth c H locs cells slots (vx_MQ below Qc XC args s mc ms free) (F0 m pc ls rest) := by
  intro T hT X
  have htr : e.platform.stackTraces = false := (show e.platform.stackTraces = l.stackTraces by rw [X.admits.platform]).trans hl
  have Y := vx_rebase X (R' := { frames := R.frames, locals := R.locals, cells := 1, slots := 6 }) (Nat.le_refl _) (Nat.le_refl _) hRcells hRslots
  obtain ⟨s', hA⟩ : ∃ z, z = (T.setVm s.vm).setFrames (.invoking m args :: below) := ⟨_, rfl⟩
  rw [← hA] at Y
  have hvm : s'.vm = s.vm := by rw [hA]; rfl
  have hhp : s'.heap = H := by rw [hA]; exact hT
  have hW0 : s.WarmedH s'.vm := by rw [hvm]; exact State.WarmedH.refl s
  have hat' : ∀ w ∈ vx_atS own ic cls names, w.before args s' = true := fun w hw => vx_ot_at hW0 hvm.symm (hgood w (List.mem_cons_of_mem _ (List.mem_cons_of_mem _ hw))) (hat w hw)
  have hk' : (Cond.classLink own ik cls).before args s' = true := vx_ot_at hW0 hvm.symm (hgood _ List.mem_cons_self) hk
  have hini' : (Cond.initialized cls).before args s' = true := vx_ot_at hW0 hvm.symm (hgood _ (List.mem_cons_of_mem _ List.mem_cons_self)) hini
  have hU' : vx_Zq Bundle.tN "UNASSIGNED_STACK" Bundle.steD A s' s'.heap := by rw [hhp]; exact vx_Zq.moved hW0.alike (hU.kept hS.2.1)
  have hN' : vx_Zq Bundle.tN "SUPPRESSED_SENTINEL" Bundle.listD A s' s'.heap := by rw [hhp]; exact vx_Zq.moved hW0.alike (hN.kept hS.2.1)
  have h : ∀ w ∈ Bundle.ownAtoms own ic cls names, w.before args s' = true := vx_own hat' (vx_isRefq hU'.1) (vx_isRefq hN'.1) hU'.2.word hN'.2.word
  have hown' : s'.vm.findClass own = some m.cls := by rw [hvm]; exact hown
  have hins : (Cond.instantiable cls 6).before args s' = true := h _ (by simp [Bundle.ownAtoms])
  obtain ⟨vm₁, cX, kX, hfX, hkX, -, -, X₁, st1⟩ := Y.newCold hexec (own := own) (C := cls) (index := ik) (n := 6) hown' hk' hins hini'
    (g := F0 m pc ls rest) rfl (by rw [hb]; exact d0) (Nat.le_refl _) (Nat.le_refl _)
  generalize hT1 : (T.setVm vm₁).pushCell { cls := cX, slots := kX.instanceTypes.map defaultValue, vm := .none } = T1 at X₁ st1
  have hcat : (Value.ref T.heap.size).category = 1 := rfl
  have hcellA : T1.heap[T.heap.size]? = some (freshCell cX kX) := by rw [← hT1]; exact State.heap_pushCell_size _ _
  have d3' : decode c.code (pc + 3) = .ok (.dup, 1) := by rw [hb]; exact d3
  have d4' : decode c.code (pc + 4) = .ok (.ldc_w is, 3) := by rw [hb]; exact d4
  have hstr' : vk_R own is text sa s' := vk_R.warm hW0 hstr
  obtain ⟨U, hsteps, hrun, hend, hW, hsame, ce, hce, hO⟩ := X₁.ctorThrowS hexec htr (own := own) (cls := cls) (names := names) (ic := ic) hown' hcls hnames h (fun x hx => nomatch hx) hfX hkX hcellA (by rw [hhp, hT]; exact Nat.le_refl _) (msg := .ref sa) rfl
    (g := { method := m, pc := pc + 7, locals := ls, stack := .ref sa :: .ref T.heap.size :: .ref T.heap.size :: rest, locked := none }) rfl hsize rfl rfl (rest := rest) rfl
    (by rw [hb]; exact d7) (by rw [hb]; exact d10) hout hRframes (by simp only [List.map_cons, List.sum_cons, hcat]; omega) hlocks
  obtain ⟨f1, f2⟩ := vx_frame hsame
  rw [hhp] at f1 f2
  have hWs : s.WarmedH U.vm := State.WarmedH.trans hW0 hW
  have hcl : s.vm.findClass cls = some ce.cls := by
    have h9 := hO.cls
    rw [hvm] at h9
    exact h9
  have hall : s.sameButNew ({ U with vm := s.vm } : State) locs mc ms := by
    subst hA
    obtain ⟨e1, e2⟩ := hsame
    rw [State.setFrames_setFrames] at e1
    have h2 : (T.setVm s.vm).sameButNew ({ U with vm := s.vm } : State) [] (0 + 1) (0 + 6) := ⟨e1, e2⟩
    have h3 := X.same.trans h2
    rw [List.append_nil] at h3
    exact h3.mono hc hs
  refine ⟨U, ?_, .threw T.heap.size, hrun, hend, Or.inr ⟨T.heap.size, rfl, cls, ce, locs, hx U hWs.alike f1 (fun q hq => f2 q hq (fun z hz => nomatch hz)), hce, hO.vm, hcl, hWs, hall, hf⟩⟩
  refine st1 _ ?_
  show Steps p.tables e below (T1.setTop { method := m, pc := pc + 3, locals := ls, stack := .ref T.heap.size :: rest, locked := none }) _
  jvm_step X₁.here [X₁.here.top, hexec, d3', Value.category]
  exact X₁.ldcStringW hexec (own := own) (text := text) (index := is) (a := sa) hown' hstr'.1 hstr'.2
    (g := { method := m, pc := pc + 4, locals := ls, stack := .ref T.heap.size :: .ref T.heap.size :: rest, locked := none }) rfl d4' _ hsteps
end Ends
section Bodies
variable {l : Launch}
theorem vx_ofW {y : MethodName} {ws ws' : List Cond} {rm : Room} {Pc : Array Value → State → Prop} {Qc : Array Value → State → Outcome → State → Prop} {XC : String → State → State → Prop} {mc ms : Nat} {free : Addr → Prop} {cc : ByteArray} {maxL : Nat} {ret : Option FieldType}
    (hy : plainName y.cls = true) (hw : ws = Cond.code y cc maxL ret :: ws')
    (body : ∀ p e s m args below meth c s₁, BodyLoose p l y (headSpec ws rm) cc maxL ret e s m args below meth c s₁ → c.maxLocals = maxL → (∀ x ∈ c.exceptionTable.toList, False) → Pc args s →
      W p l e (headSpec ws rm).room s m args below meth c s.heap [] 0 0 (vx_MQ below Qc XC args s mc ms free) (entryFrame m args maxL)) : vx_Met l y ws rm Pc Qc XC mc ms free := by
  refine MetFree.of_bodyS (code := cc) (maxLocals := maxL) (ret := ret) hy ?_ ?_
  · intro args s m h hn
    obtain ⟨meth, c, h1, h2, h3, h4, h5, h6, -, -⟩ := Cond.code_spec hn (atoms_spec (ws := ws) h _ (by rw [hw]; exact List.mem_cons_self))
    exact ⟨meth, c, h1, h2, h3, h4, h5, h6⟩
  · intro p e s m args below meth c s₁ B hml hP _
    have hh0 : s₁.heap = s.heap := by rw [B.state]; rfl
    have ht : ∀ x ∈ c.exceptionTable.toList, False := by
      obtain ⟨meth9, c9, h1, h2, -, -, -, -, h7, -⟩ := Cond.code_spec B.named (atoms_spec (ws := ws) B.pre _ (by rw [hw]; exact List.mem_cons_self))
      cases Option.some.inj (h1.symm.trans B.method)
      cases Option.some.inj (h2.symm.trans (Stand.of_body B).code)
      intro x hx
      rw [Array.isEmpty_iff.mp h7] at hx
      cases hx
    obtain ⟨t, a1, o, b1, b2, b3⟩ := body p e s m args below meth c s₁ B hml ht hP s₁ hh0 (Stand.of_body B)
    exact ⟨t, o, a1, b1, b2, b3⟩
/-- the table of a body with handlers -/
theorem vx_table {p : Program} {x y : MethodName} {S : Spec} {cc bytes : ByteArray} {maxL maxL' : Nat} {ret ret' : Option FieldType} {e : Env} {s s₁ : State} {m : MethodId} {args : Array Value} {below : List Frame} {meth : Method} {c : Code} {hh : List (Nat × Nat × Nat × Nat)}
    (B : BodyLoose p l y S cc maxL ret e s m args below meth c s₁) (h : (Cond.codeWith y bytes maxL' ret' hh).before args s = true) : c.exceptionTable.toList = tableOf hh := by
  obtain ⟨m9, meth9, c9, hn9, h1, h2, -, -, h6, -⟩ := Cond.codeWith_spec h
  cases Option.some.inj (hn9.symm.trans B.named)
  cases Option.some.inj (h1.symm.trans B.method)
  cases Option.some.inj (h2.symm.trans (Stand.of_body B).code)
  rw [← h6, table_eq]
end Bodies
end VXA
/-! ===== END ===== -/
/-! ===== BEGIN a static call of a method with an exception table ===== -/
section VXS
variable {p : Program} {l : Launch} {e : Env} {R : Room} {s : State} {m : MethodId} {args : Array Value} {below : List Frame} {meth : Method} {c : Code} {T : State} {H : Heap} {locs : List Loc} {cells slots : Nat}
abbrev vx_CSW (R : Room) (s : State) (args : Array Value) (own : String) (index : Nat) (y : MethodName) (bytes : ByteArray) (maxL : Nat) (ret : Option FieldType) (hh : List (Nat × Nat × Nat × Nat)) (ws : List Cond) (rm : Room) (mc ms n : Nat) : Prop :=
  (rm.cells = mc ∧ rm.slots = ms ∧ rm.frames + 1 ≤ R.frames ∧ 8 + (maxL + 11) + rm.locals ≤ R.locals ∧ (∀ w ∈ ws, ∀ (a' : Array Value) (U : State), s.WarmedH U.vm → w.before a' U = true) ∧ Cond.codeWith y bytes maxL ret hh ∈ ws) ∧
  (Cond.codeWith y bytes maxL ret hh).before args s = true ∧ (Cond.initialized y.cls).before args s = true ∧ (y.cls ≠ "java/lang/invoke/MethodHandle" ∧ y.cls ≠ "java/lang/invoke/VarHandle") ∧
  (∀ sig, parseMethodDescriptor y.desc = some sig → n = sig.parameters.length) ∧ (Cond.methodLink own index y).before args s = true ∧ (Cond.static y).before args s = true
theorem vx_cwSW {own : String} {index maxL mc ms : Nat} {y : MethodName} {bytes : ByteArray} {ret : Option FieldType} {hh : List (Nat × Nat × Nat × Nat)} {Ts ws ws' : List Cond} {rm : Room} (n : Nat) (ht : ∀ w ∈ Ts, w.before args s = true) (hT : GoodIn Ts (va_wsS own index y ws)) (hw : ws = Cond.codeWith y bytes maxL ret hh :: ws') (hrc : rm.cells = mc) (hrs : rm.slots = ms)
    (hd : y.cls ≠ "java/lang/invoke/MethodHandle" ∧ y.cls ≠ "java/lang/invoke/VarHandle" ∧ (parseMethodDescriptor y.desc).map (fun d => d.parameters.length) = some n) (hR : rm.frames + 1 ≤ R.frames ∧ 8 + (maxL + 11) + rm.locals ≤ R.locals) :
    vx_CSW R s args own index y bytes maxL ret hh ws rm mc ms n := by
  have ok : ∀ w ∈ va_wsS own index y ws, w.before args s = true := fun w h => ht w (hT w h).1
  have hG : GoodIn Ts ws := fun w h => hT w (by unfold va_wsS; exact List.mem_append_right _ h)
  have hc : Cond.codeWith y bytes maxL ret hh ∈ ws := by rw [hw]; exact List.mem_cons_self
  refine ⟨⟨hrc, hrs, hR.1, hR.2, pay_in ht hG, hc⟩, ht _ (hG _ hc).1, ok _ (by simp [va_wsS]), ⟨hd.1, hd.2.1⟩, fun sig h => ?_, ok _ (by simp [va_wsS]), ok _ (by simp [va_wsS])⟩
  have h2 := hd.2.2
  rw [h] at h2
  exact (Option.some.inj h2).symm
theorem vx_callSW (X : Stand p l e R s m args below meth c T locs cells slots) (hexec : p.tables.exec = Jvm.exec) {own : String} {index : Nat} {y : MethodName} {bytes : ByteArray} {maxL : Nat} {ret : Option FieldType} {hh : List (Nat × Nat × Nat × Nat)}
    (hown : s.vm.findClass own = some m.cls) (hlink : (Cond.methodLink own index y).before args s = true) (hstat : (Cond.static y).before args s = true) (hinit : (Cond.initialized y.cls).before args s = true)
    (hcode : (Cond.codeWith y bytes maxL ret hh).before args s = true) (hy : y.cls ≠ "java/lang/invoke/MethodHandle" ∧ y.cls ≠ "java/lang/invoke/VarHandle")
    {W9 : Nat} {Pre : Pt → Array Value → Prop} {Post : Pt → Array Value → Option Value → Pt → Prop} (hK : Back l R p e below s args y 3 W9 Pre Post)
    {g : JFrame} (hg : g.method = m) (hsize : g.locals.size = c.maxLocals) {argsL rest : List Value} (hlen : ∀ sig, parseMethodDescriptor y.desc = some sig → argsL.length = sig.parameters.length)
    (hstack : g.stack = argsL.reverse ++ rest) (hW : 2 * g.monitorRoom + (rest.map fun v => v.category).sum ≤ W9) (hdg : decode c.code g.pc = .ok (.invokestatic index, 3))
    (hpre : ∀ vm₁, s.WarmedH vm₁ → Pre ⟨T.setVm vm₁, locs, cells, slots⟩ argsL.toArray) :
    ∃ (v : Option Value) (vm₁ : Vm) (B : Pt), s.WarmedH vm₁ ∧ Stand p l e R s m args below meth c B.U B.locs B.cells B.slots ∧ Post ⟨T.setVm vm₁, locs, cells, slots⟩ argsL.toArray v B ∧
      ∀ target, Steps p.tables e below (B.U.setTop { g with pc := g.pc + 3, stack := v.toList ++ rest }) target → Steps p.tables e below (T.setTop g) target := by
  obtain ⟨mk, methM, cM, hnamed, hmethM, -, -, -, -, -, -, hsigM⟩ := Cond.codeWith_spec hcode
  have hstatic : methM.isStatic = true := Cond.static_spec hnamed hmethM hstat
  obtain ⟨kP, hkP, -⟩ := className_of_methodNamed hnamed
  have hinitP : kP.init = .initialized := Cond.initialized_spec (findClass_of_methodNamed hnamed) hkP hinit
  obtain ⟨vm₁, X₁, hstep₁⟩ := X.invokestatic hexec hown hlink hnamed hmethM hstatic hkP hinitP hy (g := g) hg (argsL := argsL) (rest := rest) (hlen _ hsigM) hstack hdg
  obtain ⟨v, B, X', hpost, hsteps⟩ := hK m meth c ⟨T.setVm vm₁, locs, cells, slots⟩ { g with stack := rest } (.invokestatic index) mk argsL.toArray X₁ hg hsize hdg hW (X₁.named hnamed) (hpre vm₁ X₁.warmed)
  exact ⟨v, vm₁, B, X₁.warmed, X', hpost, fun target h => hstep₁ _ fun acts => by rw [doInvoke_state]; exact hsteps.trans h⟩
theorem vx_runSW {y : MethodName} {bytes cc : ByteArray} {maxL nL mc ms n index : Nat} {ret : Option FieldType} {hh : List (Nat × Nat × Nat × Nat)} {ws : List Cond} {rm : Room} {Pc : Array Value → State → Prop} {Qc : Array Value → State → Outcome → State → Prop} {free : Addr → Prop} {Ts : List Cond} {own : String} {As rest : List Value} {g : JFrame}
    (S : CallFix p m c cc nL s args Ts own) (hM : Met l y ws rm Pc Qc mc ms free) (cw : vx_CSW R s args own index y bytes maxL ret hh ws rm mc ms n) (hp : PreS s H Pc As)
    (hg : g.method = m) (hn : As.length = n) (hsize : g.locals.size = nL) (hstack : g.stack = As.reverse ++ rest) (hW : 2 * g.monitorRoom + (rest.map fun v => v.category).sum ≤ 8) (hdg : decode cc g.pc = .ok (.invokestatic index, 3)) (hf : cells + mc ≤ R.cells ∧ slots + ms ≤ R.slots) :
    va_Run p l e R s m args below meth c H locs cells slots mc ms g rest (Qc As.toArray) (free) := by
  obtain ⟨⟨hrc, hrs, hfr, hlo, hws, hcw⟩, hcode, hini, hy, hlen, hl, hstt⟩ := cw
  have hK : Back l R p e below s args y 3 8 (PreOf R mc ms Pc) (PostOf Qc mc ms free) := va_backW (hh := hh) (bytes := bytes) (maxL := maxL) (ret := ret) hM hp.1 hrc hrs hfr hlo hws hcw (fun a' U hW => word_at hW (Or.inl (by first | rfl | simp [Cond.onTables, Cond.keeps, Cond.steady])) hini)
  obtain ⟨hx, hb, hml, ho, -⟩ := S
  intro T hT X
  obtain ⟨v, vm₁, ⟨U', l2, c2, s2⟩, hW₁, X', ⟨g', mk, t, L, e1, e2, hq, h1, hL, h2, h3⟩, st⟩ := vx_callSW X hx (hh := hh) (bytes := bytes) (maxL := maxL) (ret := ret) ho hl hstt hini hcode hy hK hg (hsize.trans hml.symm) (argsL := As) (rest := rest) (fun sig h => hn.trans (hlen sig h)) hstack hW (by rw [hb]; exact hdg)
    (fun vm₁ hW₁ => ⟨hf.1, hf.2, hp.2 (T.setVm vm₁) hT hW₁⟩)
  dsimp only [Pt.U, Pt.locs, Pt.cells, Pt.slots] at X' e1 e2 h1 h2 h3 st
  subst h1; subst h2; subst h3
  exact ⟨v, (T.setVm vm₁).calling g' mk As.toArray, t, U', L, hT, X', hL, e1, e2, hq, st⟩
/-- not caught here, past rows that name other classes: it goes on to the caller -/
theorem vx_outP {p : Program} {l : Launch} {e : Env} {R : Room} {s : State} {m : MethodId} {args : Array Value} {below : List Frame} {meth : Method} {c : Code} {H : Heap} {locs : List Loc} {cells slots : Nat} {free : Addr → Prop} {ls : Array Slot} {rest : List Value} {Qc : Array Value → State → Outcome → State → Prop} {XC : String → State → State → Prop}
    {pc : Nat} {own E : String} {ce : Cell} {q : Addr} {mc ms : Nat} (hown : s.vm.findClass own = some m.cls) (hlocks : meth.locks = false)
    (hpass : ∀ z ∈ c.exceptionTable.toList, covers z pc = false ∨ (z.catchType ≠ 0 ∧ ∃ nm : String, (Cond.classLink own z.catchType nm).before args s = true ∧ va_Nc E nm s)) (hcell : H[q]? = some ce) (hv : ce.vm = .none) (hcl : s.vm.findClass E = some ce.cls)
    (hx : ∀ t : State, t.heap = H → s.vm.Alike t.vm → XC E s t) (hf : ∀ z ∈ locs, free z.base) (hc : cells ≤ mc) (hs : slots ≤ ms) :
    vx_W p l e R s m args below meth c H locs cells slots (vx_MQ below Qc XC args s mc ms free) (F0 m pc ls rest) q := by
  intro T hT X
  have hpl : e.platform.magicAccessors = ({} : Platform).magicAccessors := by rw [X.admits.platform]
  obtain ⟨vm', hW', X', st⟩ := X.outThrough hlocks q (g := F0 m pc ls rest) rfl rfl rfl (cell := ce) (by rw [hT]; exact hcell) (by rw [hv]; rfl)
    (by obtain ⟨k9, h9, -⟩ := Vm.findClass_spec hcl; exact ⟨k9, h9⟩) (fun z hz => by
      rcases hpass z hz with h | ⟨hz0, nm, hl1, hn1⟩
      · exact Or.inl h
      · obtain ⟨c6, hc6, hcl6⟩ := Cond.classLink_spec hown hl1 e.platform hpl
        obtain ⟨a8, b8, h1, h2, h3⟩ := hn1
        cases Option.some.inj (h1.symm.trans hcl)
        cases Option.some.inj (h2.symm.trans hc6)
        exact Or.inr ⟨hz0, _, hcl6, h3⟩)
  obtain ⟨g₀, hfr⟩ := X'.frames_eq
  have hcell9 : ((T.setVm vm').setFrames (.throwing q :: below)).heap[q]? = some ce := by
    show T.heap[q]? = some ce
    rw [hT]; exact hcell
  have hend : Ended ((T.setVm vm').setFrames (.throwing q :: below)) below (.threw q) := State.frames_setFrames _ (State.cur_lt_of_frames hfr)
  refine ⟨(T.setVm vm').setFrames (.throwing q :: below), ?_, .threw q, X'.here.running, hend, Or.inr ⟨q, rfl, E, ce, locs, hx _ hT (X'.ends _).1.alike, hcell9, hv, hcl, (X'.ends _).1, (X'.ends _).2.mono hc hs, hf⟩⟩
  rw [X.pushThrowing_eq]
  exact st
/-- a thing of a world lies in the heap -/
theorem vx_lt {D : va_G} {cl : List vw_C} {ws : va_W} {H1 : Heap} (h : va_P D cl ws H1) {k : Nat} {q : Nat × va_E} (hk : ws[k]? = some q) : q.1 < H1.size := (h k q hk).lt
end VXS
/-! ===== END ===== -/
/-! ===== BEGIN methods with a table of their own: called by a name, returning or throwing ===== -/
section VXH
/-! vx_backW, vx_callVX, vx_callSX, vx_callVW, vx_runVW, vx_runVX, vx_runSX, vx_ofWH follow the same proofs as their sisters above (Free/Laws.lean, Shelf42/LK1.lean); vx_outP calls Shelf42/NT130.lean (outThrough). -/
section
variable {l : Launch} {R : Room} {p : Program} {e : Env} {below : List Frame} {s : State} {sargs : Array Value} {y : MethodName} {len W9 : Nat}
theorem vx_backW {ws : List Cond} {rm : Room} {Pc : Array Value → State → Prop} {Qc : Array Value → State → Outcome → State → Prop} {XC : String → State → State → Prop} {mc ms : Nat} {free : Addr → Prop} {bytes : ByteArray} {maxL : Nat} {ret : Option FieldType} {hh : List (Nat × Nat × Nat × Nat)}
    (hM : vx_Met l y ws rm Pc Qc XC mc ms free) (hblind : FrameBlind Pc) (hrc : rm.cells = mc) (hrs : rm.slots = ms)
    (hframes : rm.frames + 1 ≤ R.frames) (hlocals : W9 + (maxL + 11) + rm.locals ≤ R.locals)
    (hws : ∀ w ∈ ws, ∀ a' U, s.WarmedH U.vm → w.before a' U = true) (hcode : Cond.codeWith y bytes maxL ret hh ∈ ws) (hinit : ∀ a' U, s.WarmedH U.vm → (Cond.initialized y.cls).before a' U = true) :
    vx_Back l R p e below s sargs y len W9 (PreOf R mc ms Pc) (PostOf Qc mc ms free) (vx_Post XC mc ms free) := by
  intro m meth c A g ig mk a X hg hsize hdg hW hn hp
  have h1 : (headSpec ws rm).pre.before a A.U = true := atoms_intro fun w hw => hws w hw _ _ X.warmed
  have h2 : (Cond.codeWith y bytes maxL ret hh).before a A.U = true := hws _ hcode _ _ X.warmed
  have h3 : (Cond.initialized y.cls).before a A.U = true := hinit _ _ X.warmed
  have h4 : A.cells + (headSpec ws rm).room.cells ≤ R.cells := by rw [show (headSpec ws rm).room.cells = mc from hrc]; exact hp.1
  have h5 : A.slots + (headSpec ws rm).room.slots ≤ R.slots := by rw [show (headSpec ws rm).room.slots = ms from hrs]; exact hp.2.1
  have hPc : Pc a (A.U.calling g mk a) := hblind _ _ _ _ hp.2.2
  obtain ⟨U, Ls, c0, s0⟩ := A
  dsimp only [Pt.U, Pt.locs, Pt.cells, Pt.slots] at h1 h2 h3 h4 h5 X hn hPc ⊢
  obtain ⟨m9, methY, cY, hn9, hmY, hcY, -, hlY, -⟩ := Cond.codeWith_spec h2
  cases Option.some.inj (hn9.symm.trans hn)
  obtain ⟨kY, hkY, -⟩ := className_of_methodNamed hn
  have hinitY : kY.init = .initialized := Cond.initialized_spec (findClass_of_methodNamed hn) hkY h3
  have h : At U g.method c below := by rw [hg]; exact X.here
  have hlocals9 : W9 + (maxL + 11) + (headSpec ws rm).room.locals ≤ R.locals := hlocals
  have happ : (headSpec ws rm).appliesLoose y e.platform (U.calling g mk a) = true :=
    Spec.appliesLoose_calling (g := g) h hdg hn hkY hinitY
      (X.room_calling (g := g) (R' := (headSpec ws rm).room) hsize hmY hcY hframes (by rw [hlY]; omega) h4 h5) h1
  obtain ⟨mid, hmid⟩ := h.above
  have hfr : (U.setTop g).frames = (.java g :: mid) ++ below := by rw [State.frames_setTop' g h.top, hmid]; rfl
  obtain ⟨o, s₂, hsteps, -, hend, hq⟩ := Steps.callFree hM p X.admits X.cas X.clock (acts := []) hfr happ hPc trivial
  have hq' : vx_Q Qc XC mc ms free a (U.calling g mk a) o s₂ := hq
  rw [State.frames_setTop' g h.top] at hend
  obtain ⟨g₀, hg0⟩ := Option.isSome_iff_exists.mp h.top
  obtain ⟨r, hr⟩ := State.topJava?_eq_some.mp hg0
  have hr' : (({ U with heap := s₂.heap, slotsUsed := s₂.slotsUsed } : State).setVm s₂.vm).frames = .java g₀ :: r := hr
  rcases hq' with ⟨hqc, L, hfe, hL⟩ | ⟨q, rfl, E, ce, L, hx, hce, hcv, hcl, hW₂, hsm, hL⟩
  · obtain ⟨⟨v, rfl⟩, hW₂, e2, q2, q3, q4, q5, q6⟩ := id hfe
    have e3 : s₂ = ({ (U.calling g mk a).setFrames s₂.frames with heap := s₂.heap, slotsUsed := s₂.slotsUsed } : State).setVm s₂.vm := by
      have : s₂ = ({ s₂ with vm := (U.calling g mk a).vm } : State).setVm s₂.vm := rfl
      rw [e2] at this
      exact this
    obtain ⟨c₂, i₂, len₂, hc₂, hd₂, hf₂⟩ := hend
    have hW' : U.WarmedH s₂.vm := hW₂
    have hcc : c₂ = c := by
      have h1 : s₂.code? g.method = U.code? g.method := by
        rw [State.code?_eq, State.code?_eq, hW'.alike.method?]
      exact Option.some.inj (hc₂.symm.trans (h1.trans h.code))
    subst hcc
    have hlen : len₂ = len := by rw [hdg] at hd₂; cases hd₂; rfl
    subst hlen
    have hs₂ : s₂ = (({ U with heap := s₂.heap, slotsUsed := s₂.slotsUsed } : State).setVm s₂.vm).setTop { g with pc := g.pc + len₂, stack := v.toList ++ g.stack } := by
      refine e3.trans ?_
      rw [hf₂, State.calling_eq h.top, State.setFrames_setFrames, State.setTop_of_frames _ hr', hr]
      rfl
    have hsame : U.sameButNew ({ U with heap := s₂.heap, slotsUsed := s₂.slotsUsed } : State) L mc ms := by
      refine ⟨?_, q2, q3, q4, q5, q6⟩
      obtain ⟨t, ht, -⟩ := State.frames_cons hr
      show ({ U with heap := s₂.heap, slotsUsed := s₂.slotsUsed } : State) = { U.setFrames U.frames with heap := s₂.heap, slotsUsed := s₂.slotsUsed }
      rw [State.setFrames_self ht]
    subst hg
    refine Or.inl ⟨v, ⟨(({ U with heap := s₂.heap, slotsUsed := s₂.slotsUsed } : State).setVm s₂.vm), Ls ++ L, c0 + mc, s0 + ms⟩,
      ⟨X.admits, X.cas, X.clock, X.frames, X.room, X.hears, X.method, X.code, (X.here.setHeapUsed s₂.heap s₂.slotsUsed).setVm hW'.alike, X.tail, State.WarmedH.trans X.warmed hW', X.limits, X.bytes, X.same.trans (hsame.setVm s.vm)⟩,
      ⟨g, mk, s₂, L, rfl, rfl, hqc, rfl, hL, rfl, rfl⟩, ?_⟩
    show Steps p.tables e below _ ((({ U with heap := s₂.heap, slotsUsed := s₂.slotsUsed } : State).setVm s₂.vm).setTop { g with pc := g.pc + len₂, stack := v.toList ++ g.stack })
    rw [← hs₂]
    exact hsteps
  · obtain ⟨e2, q2, q3, q4, q5, q6⟩ := id hsm
    have e3 : s₂ = ({ (U.calling g mk a).setFrames s₂.frames with heap := s₂.heap, slotsUsed := s₂.slotsUsed } : State).setVm s₂.vm := by
      have : s₂ = ({ s₂ with vm := (U.calling g mk a).vm } : State).setVm s₂.vm := rfl
      rw [e2] at this
      exact this
    have hf₂ : s₂.frames = .throwing q :: .java g :: U.frames.tail := hend
    have hW' : U.WarmedH s₂.vm := hW₂
    have hs₂ : s₂ = ((({ U with heap := s₂.heap, slotsUsed := s₂.slotsUsed } : State).setVm s₂.vm).setTop g).pushFrame (.throwing q) := by
      refine e3.trans ?_
      rw [hf₂, State.calling_eq h.top, State.setFrames_setFrames, State.pushFrame, State.frames_setTop _ hr', State.setTop_of_frames _ hr', State.setFrames_setFrames, hr]
      rfl
    have hsame : U.sameButNew ({ U with heap := s₂.heap, slotsUsed := s₂.slotsUsed } : State) L mc ms := by
      refine ⟨?_, q2, q3, q4, q5, q6⟩
      obtain ⟨t, ht, -⟩ := State.frames_cons hr
      show ({ U with heap := s₂.heap, slotsUsed := s₂.slotsUsed } : State) = { U.setFrames U.frames with heap := s₂.heap, slotsUsed := s₂.slotsUsed }
      rw [State.setFrames_self ht]
    subst hg
    refine Or.inr ⟨q, ⟨(({ U with heap := s₂.heap, slotsUsed := s₂.slotsUsed } : State).setVm s₂.vm), Ls ++ L, c0 + mc, s0 + ms⟩,
      ⟨X.admits, X.cas, X.clock, X.frames, X.room, X.hears, X.method, X.code, (X.here.setHeapUsed s₂.heap s₂.slotsUsed).setVm hW'.alike, X.tail, State.WarmedH.trans X.warmed hW', X.limits, X.bytes, X.same.trans (hsame.setVm s.vm)⟩,
      ⟨g, mk, s₂, L, E, ce, rfl, rfl, hx, hce, hcv, hcl, rfl, hL, rfl, rfl⟩, ?_⟩
    show Steps p.tables e below _ (((({ U with heap := s₂.heap, slotsUsed := s₂.slotsUsed } : State).setVm s₂.vm).setTop g).pushFrame (.throwing q))
    rw [← hs₂]
    exact hsteps
end
variable {p : Program} {l : Launch} {e : Env} {R : Room} {s : State} {m : MethodId} {args : Array Value} {below : List Frame} {meth : Method} {c : Code} {T : State} {H : Heap} {locs : List Loc} {cells slots : Nat}
theorem vx_callVX (X : Stand p l e R s m args below meth c T locs cells slots) (hexec : p.tables.exec = Jvm.exec) {own C : String} {index : Nat} {y : MethodName} {bytes : ByteArray} {maxL : Nat} {ret : Option FieldType} {hh : List (Nat × Nat × Nat × Nat)}
    (hown : s.vm.findClass own = some m.cls) (hlink : (Cond.methodLink own index y).before args s = true) (hinst : (Cond.instanceMethod y).before args s = true) (hsel : (Cond.selects C y y).before args s = true)
    (hcode : (Cond.codeWith y bytes maxL ret hh).before args s = true) (hy : y.cls ≠ "java/lang/invoke/MethodHandle" ∧ y.cls ≠ "java/lang/invoke/VarHandle")
    {W9 : Nat} {Pre : Pt → Array Value → Prop} {Post : Pt → Array Value → Option Value → Pt → Prop} {PostX : Pt → Array Value → Addr → Pt → Prop} (hK : vx_Back l R p e below s args y 3 W9 Pre Post PostX)
    {b : Addr} {cellB : Cell} (hcell : T.heap[b]? = some cellB) (hobj : cellB.vm.isStatics = false) (hcls : s.vm.findClass C = some cellB.cls)
    {g : JFrame} (hg : g.method = m) (hsize : g.locals.size = c.maxLocals) {argsL rest : List Value} (hlen : ∀ sig, parseMethodDescriptor y.desc = some sig → argsL.length = sig.parameters.length)
    (hstack : g.stack = argsL.reverse ++ .ref b :: rest) (hW : 2 * g.monitorRoom + (rest.map fun v => v.category).sum ≤ W9) (hdg : decode c.code g.pc = .ok (.invokevirtual index, 3))
    (hpre : ∀ vm₁, s.WarmedH vm₁ → Pre ⟨T.setVm vm₁, locs, cells, slots⟩ (Value.ref b :: argsL).toArray) :
    (∃ (v : Option Value) (vm₁ : Vm) (B : Pt), s.WarmedH vm₁ ∧ Stand p l e R s m args below meth c B.U B.locs B.cells B.slots ∧ Post ⟨T.setVm vm₁, locs, cells, slots⟩ (Value.ref b :: argsL).toArray v B ∧
      ∀ target, Steps p.tables e below (B.U.setTop { g with pc := g.pc + 3, stack := v.toList ++ rest }) target → Steps p.tables e below (T.setTop g) target) ∨
    (∃ (q : Addr) (vm₁ : Vm) (B : Pt), s.WarmedH vm₁ ∧ Stand p l e R s m args below meth c B.U B.locs B.cells B.slots ∧ PostX ⟨T.setVm vm₁, locs, cells, slots⟩ (Value.ref b :: argsL).toArray q B ∧
      Steps p.tables e below (T.setTop g) ((B.U.setTop { g with stack := rest }).pushFrame (.throwing q))) := by
  obtain ⟨mk, methM, hnamed, hmethM, hstM, habM⟩ := Cond.instanceMethod_spec hinst
  obtain ⟨m8, methM', cM, hn8, hmethM', -, -, -, -, -, -, hsigM⟩ := Cond.codeWith_spec hcode
  cases Option.some.inj (hn8.symm.trans hnamed)
  cases hmethM.symm.trans hmethM'
  obtain ⟨c2, r2, m2, q1, q2, q3, q4, kP, hkP, hkPi⟩ := Cond.selects_spec hsel
  cases hcls.symm.trans q1
  cases (State.methodFound?_of_named hnamed hy).symm.trans q2
  cases hnamed.symm.trans q3
  have hselP : selectMethod e.platform s.vm cellB.cls mk = .method mk := by rw [Launch.admits_selectMethod X.admits]; exact q4
  obtain ⟨vm₁, X₁, hstep₁⟩ := X.invokevirtual hexec hown hlink hnamed hmethM hstM hkP hkPi hy (a := b) (cell := cellB) hcell
    (fun z h => by rw [h] at hobj; cases hobj) hselP hmethM habM hkP hkPi (g := g) hg (argsL := argsL) (rest := rest) (hlen _ hsigM) hstack hdg
  rcases hK m meth c ⟨T.setVm vm₁, locs, cells, slots⟩ { g with stack := rest } (.invokevirtual index) mk (Value.ref b :: argsL).toArray X₁ hg hsize hdg hW (X₁.named hnamed) (hpre vm₁ X₁.warmed) with ⟨v, B, X', hpost, hsteps⟩ | ⟨q, B, X', hpost, hsteps⟩
  · exact Or.inl ⟨v, vm₁, B, X₁.warmed, X', hpost, fun target h => hstep₁ _ fun acts => by rw [doInvoke_state]; exact hsteps.trans h⟩
  · exact Or.inr ⟨q, vm₁, B, X₁.warmed, X', hpost, hstep₁ _ fun acts => by rw [doInvoke_state]; exact hsteps⟩
theorem vx_callSX (X : Stand p l e R s m args below meth c T locs cells slots) (hexec : p.tables.exec = Jvm.exec) {own : String} {index : Nat} {y : MethodName} {bytes : ByteArray} {maxL : Nat} {ret : Option FieldType} {hh : List (Nat × Nat × Nat × Nat)}
    (hown : s.vm.findClass own = some m.cls) (hlink : (Cond.methodLink own index y).before args s = true) (hstat : (Cond.static y).before args s = true) (hinit : (Cond.initialized y.cls).before args s = true)
    (hcode : (Cond.codeWith y bytes maxL ret hh).before args s = true) (hy : y.cls ≠ "java/lang/invoke/MethodHandle" ∧ y.cls ≠ "java/lang/invoke/VarHandle")
    {W9 : Nat} {Pre : Pt → Array Value → Prop} {Post : Pt → Array Value → Option Value → Pt → Prop} {PostX : Pt → Array Value → Addr → Pt → Prop} (hK : vx_Back l R p e below s args y 3 W9 Pre Post PostX)
    {g : JFrame} (hg : g.method = m) (hsize : g.locals.size = c.maxLocals) {argsL rest : List Value} (hlen : ∀ sig, parseMethodDescriptor y.desc = some sig → argsL.length = sig.parameters.length)
    (hstack : g.stack = argsL.reverse ++ rest) (hW : 2 * g.monitorRoom + (rest.map fun v => v.category).sum ≤ W9) (hdg : decode c.code g.pc = .ok (.invokestatic index, 3))
    (hpre : ∀ vm₁, s.WarmedH vm₁ → Pre ⟨T.setVm vm₁, locs, cells, slots⟩ argsL.toArray) :
    (∃ (v : Option Value) (vm₁ : Vm) (B : Pt), s.WarmedH vm₁ ∧ Stand p l e R s m args below meth c B.U B.locs B.cells B.slots ∧ Post ⟨T.setVm vm₁, locs, cells, slots⟩ argsL.toArray v B ∧
      ∀ target, Steps p.tables e below (B.U.setTop { g with pc := g.pc + 3, stack := v.toList ++ rest }) target → Steps p.tables e below (T.setTop g) target) ∨
    (∃ (q : Addr) (vm₁ : Vm) (B : Pt), s.WarmedH vm₁ ∧ Stand p l e R s m args below meth c B.U B.locs B.cells B.slots ∧ PostX ⟨T.setVm vm₁, locs, cells, slots⟩ argsL.toArray q B ∧
      Steps p.tables e below (T.setTop g) ((B.U.setTop { g with stack := rest }).pushFrame (.throwing q))) := by
  obtain ⟨mk, methM, cM, hnamed, hmethM, -, -, -, -, -, -, hsigM⟩ := Cond.codeWith_spec hcode
  have hstatic : methM.isStatic = true := Cond.static_spec hnamed hmethM hstat
  obtain ⟨kP, hkP, -⟩ := className_of_methodNamed hnamed
  have hinitP : kP.init = .initialized := Cond.initialized_spec (findClass_of_methodNamed hnamed) hkP hinit
  obtain ⟨vm₁, X₁, hstep₁⟩ := X.invokestatic hexec hown hlink hnamed hmethM hstatic hkP hinitP hy (g := g) hg (argsL := argsL) (rest := rest) (hlen _ hsigM) hstack hdg
  rcases hK m meth c ⟨T.setVm vm₁, locs, cells, slots⟩ { g with stack := rest } (.invokestatic index) mk argsL.toArray X₁ hg hsize hdg hW (X₁.named hnamed) (hpre vm₁ X₁.warmed) with ⟨v, B, X', hpost, hsteps⟩ | ⟨q, B, X', hpost, hsteps⟩
  · exact Or.inl ⟨v, vm₁, B, X₁.warmed, X', hpost, fun target h => hstep₁ _ fun acts => by rw [doInvoke_state]; exact hsteps.trans h⟩
  · exact Or.inr ⟨q, vm₁, B, X₁.warmed, X', hpost, hstep₁ _ fun acts => by rw [doInvoke_state]; exact hsteps⟩
theorem vx_callVW (X : Stand p l e R s m args below meth c T locs cells slots) (hexec : p.tables.exec = Jvm.exec) {own C : String} {index : Nat} {y : MethodName} {bytes : ByteArray} {maxL : Nat} {ret : Option FieldType} {hh : List (Nat × Nat × Nat × Nat)}
    (hown : s.vm.findClass own = some m.cls) (hlink : (Cond.methodLink own index y).before args s = true) (hinst : (Cond.instanceMethod y).before args s = true) (hsel : (Cond.selects C y y).before args s = true)
    (hcode : (Cond.codeWith y bytes maxL ret hh).before args s = true) (hy : y.cls ≠ "java/lang/invoke/MethodHandle" ∧ y.cls ≠ "java/lang/invoke/VarHandle")
    {W9 : Nat} {Pre : Pt → Array Value → Prop} {Post : Pt → Array Value → Option Value → Pt → Prop} (hK : Back l R p e below s args y 3 W9 Pre Post)
    {b : Addr} {cellB : Cell} (hcell : T.heap[b]? = some cellB) (hobj : cellB.vm.isStatics = false) (hcls : s.vm.findClass C = some cellB.cls)
    {g : JFrame} (hg : g.method = m) (hsize : g.locals.size = c.maxLocals) {argsL rest : List Value} (hlen : ∀ sig, parseMethodDescriptor y.desc = some sig → argsL.length = sig.parameters.length)
    (hstack : g.stack = argsL.reverse ++ .ref b :: rest) (hW : 2 * g.monitorRoom + (rest.map fun v => v.category).sum ≤ W9) (hdg : decode c.code g.pc = .ok (.invokevirtual index, 3))
    (hpre : ∀ vm₁, s.WarmedH vm₁ → Pre ⟨T.setVm vm₁, locs, cells, slots⟩ (Value.ref b :: argsL).toArray) :
    ∃ (v : Option Value) (vm₁ : Vm) (B : Pt), s.WarmedH vm₁ ∧ Stand p l e R s m args below meth c B.U B.locs B.cells B.slots ∧ Post ⟨T.setVm vm₁, locs, cells, slots⟩ (Value.ref b :: argsL).toArray v B ∧
      ∀ target, Steps p.tables e below (B.U.setTop { g with pc := g.pc + 3, stack := v.toList ++ rest }) target → Steps p.tables e below (T.setTop g) target := by
  obtain ⟨mk, methM, hnamed, hmethM, hstM, habM⟩ := Cond.instanceMethod_spec hinst
  obtain ⟨m8, methM', cM, hn8, hmethM', -, -, -, -, -, -, hsigM⟩ := Cond.codeWith_spec hcode
  cases Option.some.inj (hn8.symm.trans hnamed)
  cases hmethM.symm.trans hmethM'
  obtain ⟨c2, r2, m2, q1, q2, q3, q4, kP, hkP, hkPi⟩ := Cond.selects_spec hsel
  cases hcls.symm.trans q1
  cases (State.methodFound?_of_named hnamed hy).symm.trans q2
  cases hnamed.symm.trans q3
  have hselP : selectMethod e.platform s.vm cellB.cls mk = .method mk := by rw [Launch.admits_selectMethod X.admits]; exact q4
  obtain ⟨vm₁, X₁, hstep₁⟩ := X.invokevirtual hexec hown hlink hnamed hmethM hstM hkP hkPi hy (a := b) (cell := cellB) hcell
    (fun z h => by rw [h] at hobj; cases hobj) hselP hmethM habM hkP hkPi (g := g) hg (argsL := argsL) (rest := rest) (hlen _ hsigM) hstack hdg
  obtain ⟨v, B, X', hpost, hsteps⟩ := hK m meth c ⟨T.setVm vm₁, locs, cells, slots⟩ { g with stack := rest } (.invokevirtual index) mk (Value.ref b :: argsL).toArray X₁ hg hsize hdg hW (X₁.named hnamed) (hpre vm₁ X₁.warmed)
  exact ⟨v, vm₁, B, X₁.warmed, X', hpost, fun target h => hstep₁ _ fun acts => by rw [doInvoke_state]; exact hsteps.trans h⟩
abbrev vx_CVW (R : Room) (s : State) (args : Array Value) (own C : String) (index : Nat) (y : MethodName) (bytes : ByteArray) (maxL : Nat) (ret : Option FieldType) (hh : List (Nat × Nat × Nat × Nat)) (ws : List Cond) (rm : Room) (mc ms n : Nat) : Prop :=
  (rm.cells = mc ∧ rm.slots = ms ∧ rm.frames + 1 ≤ R.frames ∧ 8 + (maxL + 11) + rm.locals ≤ R.locals ∧ (∀ w ∈ ws, ∀ (a' : Array Value) (U : State), s.WarmedH U.vm → w.before a' U = true) ∧ Cond.codeWith y bytes maxL ret hh ∈ ws) ∧
  (Cond.codeWith y bytes maxL ret hh).before args s = true ∧ (Cond.initialized y.cls).before args s = true ∧ (y.cls ≠ "java/lang/invoke/MethodHandle" ∧ y.cls ≠ "java/lang/invoke/VarHandle") ∧
  (∀ sig, parseMethodDescriptor y.desc = some sig → n = sig.parameters.length) ∧ (Cond.methodLink own index y).before args s = true ∧ (Cond.instanceMethod y).before args s = true ∧ (Cond.selects C y y).before args s = true
theorem vx_cwVW {own C : String} {index maxL mc ms : Nat} {y : MethodName} {bytes : ByteArray} {ret : Option FieldType} {hh : List (Nat × Nat × Nat × Nat)} {Ts ws ws' : List Cond} {rm : Room} (n : Nat) (ht : ∀ w ∈ Ts, w.before args s = true) (hT : GoodIn Ts (wsV own index C y ws)) (hw : ws = Cond.codeWith y bytes maxL ret hh :: ws') (hrc : rm.cells = mc) (hrs : rm.slots = ms)
    (hd : y.cls = C ∧ y.cls ≠ "java/lang/invoke/MethodHandle" ∧ y.cls ≠ "java/lang/invoke/VarHandle" ∧ (parseMethodDescriptor y.desc).map (fun d => d.parameters.length) = some n) (hR : rm.frames + 1 ≤ R.frames ∧ 8 + (maxL + 11) + rm.locals ≤ R.locals) :
    vx_CVW R s args own C index y bytes maxL ret hh ws rm mc ms n := by
  obtain ⟨hC, hd⟩ := hd
  subst hC
  have ok : ∀ w ∈ wsV own index y.cls y ws, w.before args s = true := fun w h => ht w (hT w h).1
  have hG : GoodIn Ts ws := fun w h => hT w (by unfold wsV; exact List.mem_append_right _ h)
  have hc : Cond.codeWith y bytes maxL ret hh ∈ ws := by rw [hw]; exact List.mem_cons_self
  refine ⟨⟨hrc, hrs, hR.1, hR.2, pay_in ht hG, hc⟩, ht _ (hG _ hc).1, ok _ (by simp [wsV]), ⟨hd.1, hd.2.1⟩, fun sig h => ?_, ok _ (by simp [wsV]), ok _ (by simp [wsV]), ok _ (by simp [wsV])⟩
  have h2 := hd.2.2
  rw [h] at h2
  exact (Option.some.inj h2).symm
theorem vx_runVW {y : MethodName} {bytes cc : ByteArray} {maxL nL mc ms n index : Nat} {ret : Option FieldType} {hh : List (Nat × Nat × Nat × Nat)} {ws : List Cond} {rm : Room} {Pc : Array Value → State → Prop} {Qc : Array Value → State → Outcome → State → Prop} {free : Addr → Prop} {Ts : List Cond} {own C : String} {b : Addr} {As rest : List Value} {g : JFrame}
    (S : CallFix p m c cc nL s args Ts own) (hM : Met l y ws rm Pc Qc mc ms free) (cw : vx_CVW R s args own C index y bytes maxL ret hh ws rm mc ms n) (hp : PreV s H C b Pc As)
    (hg : g.method = m) (hn : As.length = n) (hsize : g.locals.size = nL) (hstack : g.stack = As.reverse ++ .ref b :: rest) (hW : 2 * g.monitorRoom + (rest.map fun v => v.category).sum ≤ 8) (hdg : decode cc g.pc = .ok (.invokevirtual index, 3)) (hf : cells + mc ≤ R.cells ∧ slots + ms ≤ R.slots) :
    va_Run p l e R s m args below meth c H locs cells slots mc ms g rest (Qc (Value.ref b :: As).toArray) free := by
  obtain ⟨⟨hrc, hrs, hfr, hlo, hws, hcw⟩, hcode, hini, hy, hlen, hl, hin, hse⟩ := cw
  have hK : Back l R p e below s args y 3 8 (PreOf R mc ms Pc) (PostOf Qc mc ms free) := va_backW (hh := hh) (bytes := bytes) (maxL := maxL) (ret := ret) hM hp.1 hrc hrs hfr hlo hws hcw (fun a' U hW => word_at hW (Or.inl (by first | rfl | simp [Cond.onTables, Cond.keeps, Cond.steady])) hini)
  obtain ⟨hx, hb, hml, ho, -⟩ := S
  obtain ⟨-, ⟨cellB, hcB, hoB, hclB⟩, hPc⟩ := hp
  intro T hT X
  obtain ⟨v, vm₁, ⟨U', l2, c2, s2⟩, hW₁, X', ⟨g', mk, t, L, e1, e2, hq, h1, hL, h2, h3⟩, st⟩ := vx_callVW X hx (C := C) (hh := hh) (bytes := bytes) (maxL := maxL) (ret := ret) ho hl hin hse hcode hy hK (by rw [hT]; exact hcB) hoB hclB hg (hsize.trans hml.symm) (argsL := As) (rest := rest) (fun sig h => hn.trans (hlen sig h)) hstack hW (by rw [hb]; exact hdg)
    (fun vm₁ hW₁ => ⟨hf.1, hf.2, hPc (T.setVm vm₁) hT hW₁⟩)
  dsimp only [Pt.U, Pt.locs, Pt.cells, Pt.slots] at X' e1 e2 h1 h2 h3 st
  subst h1; subst h2; subst h3
  exact ⟨v, (T.setVm vm₁).calling g' mk (Value.ref b :: As).toArray, t, U', L, hT, X', hL, e1, e2, hq, st⟩
section
variable {y : MethodName} {bytes cc : ByteArray} {maxL nL mc ms n index : Nat} {ret : Option FieldType} {ws : List Cond} {rm : Room} {Pc : Array Value → State → Prop} {Qc : Array Value → State → Outcome → State → Prop} {XC : String → State → State → Prop} {free : Addr → Prop} {Ts : List Cond} {own C : String} {b : Addr} {As rest : List Value} {g : JFrame}
theorem vx_runVX {hh : List (Nat × Nat × Nat × Nat)} (S : CallFix p m c cc nL s args Ts own) (hM : vx_Met l y ws rm Pc Qc XC mc ms free) (cw : vx_CVW R s args own C index y bytes maxL ret hh ws rm mc ms n) (hp : PreV s H C b Pc As)
    (hg : g.method = m) (hn : As.length = n) (hsize : g.locals.size = nL) (hstack : g.stack = As.reverse ++ .ref b :: rest) (hW : 2 * g.monitorRoom + (rest.map fun v => v.category).sum ≤ 8) (hdg : decode cc g.pc = .ok (.invokevirtual index, 3)) (hf : cells + mc ≤ R.cells ∧ slots + ms ≤ R.slots) :
    vx_Run p l e R s m args below meth c H locs cells slots mc ms g rest (Qc (Value.ref b :: As).toArray) XC free := by
  obtain ⟨⟨hrc, hrs, hfr, hlo, hws, hcw⟩, hcode, hini, hy, hlen, hl, hin, hse⟩ := cw
  have hK : vx_Back l R p e below s args y 3 8 (PreOf R mc ms Pc) (PostOf Qc mc ms free) (vx_Post XC mc ms free) := vx_backW (hh := hh) (bytes := bytes) (maxL := maxL) (ret := ret) hM hp.1 hrc hrs hfr hlo hws hcw (fun a' U hW => word_at hW (Or.inl (by first | rfl | simp [Cond.onTables, Cond.keeps, Cond.steady])) hini)
  obtain ⟨hx, hb, hml, ho, -⟩ := S
  obtain ⟨-, ⟨cellB, hcB, hoB, hclB⟩, hPc⟩ := hp
  intro T hT X
  rcases vx_callVX X hx (C := C) (hh := hh) (bytes := bytes) (maxL := maxL) (ret := ret) ho hl hin hse hcode hy hK (by rw [hT]; exact hcB) hoB hclB hg (hsize.trans hml.symm) (argsL := As) (rest := rest) (fun sig h => hn.trans (hlen sig h)) hstack hW (by rw [hb]; exact hdg)
    (fun vm₁ hW₁ => ⟨hf.1, hf.2, hPc (T.setVm vm₁) hT hW₁⟩) with ⟨v, vm₁, ⟨U', l2, c2, s2⟩, hW₁, X', ⟨g', mk, t, L, e1, e2, hq, h1, hL, h2, h3⟩, st⟩ | ⟨q, vm₁, ⟨U', l2, c2, s2⟩, hW₁, X', ⟨g', mk, t, L, E, ce, e1, e2, hq, hce, hcv, hcl, h1, hL, h2, h3⟩, st⟩
  · dsimp only [Pt.U, Pt.locs, Pt.cells, Pt.slots] at X' e1 e2 h1 h2 h3 st
    subst h1; subst h2; subst h3
    exact Or.inl ⟨v, (T.setVm vm₁).calling g' mk (Value.ref b :: As).toArray, t, U', L, hT, X', hL, e1, e2, hq, st⟩
  · dsimp only [Pt.U, Pt.locs, Pt.cells, Pt.slots] at X' e1 e2 h1 h2 h3 st hcl
    subst h1; subst h2; subst h3
    exact Or.inr ⟨q, (T.setVm vm₁).calling g' mk (Value.ref b :: As).toArray, t, U', L, E, ce, hT, X', hL, e1, e2, hq, hce, hcv, vx_cls hW₁ hcl, st⟩
theorem vx_runSX {hh : List (Nat × Nat × Nat × Nat)} (S : CallFix p m c cc nL s args Ts own) (hM : vx_Met l y ws rm Pc Qc XC mc ms free) (cw : vx_CSW R s args own index y bytes maxL ret hh ws rm mc ms n) (hp : PreS s H Pc As)
    (hg : g.method = m) (hn : As.length = n) (hsize : g.locals.size = nL) (hstack : g.stack = As.reverse ++ rest) (hW : 2 * g.monitorRoom + (rest.map fun v => v.category).sum ≤ 8) (hdg : decode cc g.pc = .ok (.invokestatic index, 3)) (hf : cells + mc ≤ R.cells ∧ slots + ms ≤ R.slots) :
    vx_Run p l e R s m args below meth c H locs cells slots mc ms g rest (Qc As.toArray) XC free := by
  obtain ⟨⟨hrc, hrs, hfr, hlo, hws, hcw⟩, hcode, hini, hy, hlen, hl, hstt⟩ := cw
  have hK : vx_Back l R p e below s args y 3 8 (PreOf R mc ms Pc) (PostOf Qc mc ms free) (vx_Post XC mc ms free) := vx_backW (hh := hh) (bytes := bytes) (maxL := maxL) (ret := ret) hM hp.1 hrc hrs hfr hlo hws hcw (fun a' U hW => word_at hW (Or.inl (by first | rfl | simp [Cond.onTables, Cond.keeps, Cond.steady])) hini)
  obtain ⟨hx, hb, hml, ho, -⟩ := S
  intro T hT X
  rcases vx_callSX X hx (hh := hh) (bytes := bytes) (maxL := maxL) (ret := ret) ho hl hstt hini hcode hy hK hg (hsize.trans hml.symm) (argsL := As) (rest := rest) (fun sig h => hn.trans (hlen sig h)) hstack hW (by rw [hb]; exact hdg)
    (fun vm₁ hW₁ => ⟨hf.1, hf.2, hp.2 (T.setVm vm₁) hT hW₁⟩) with ⟨v, vm₁, ⟨U', l2, c2, s2⟩, hW₁, X', ⟨g', mk, t, L, e1, e2, hq, h1, hL, h2, h3⟩, st⟩ | ⟨q, vm₁, ⟨U', l2, c2, s2⟩, hW₁, X', ⟨g', mk, t, L, E, ce, e1, e2, hq, hce, hcv, hcl, h1, hL, h2, h3⟩, st⟩
  · dsimp only [Pt.U, Pt.locs, Pt.cells, Pt.slots] at X' e1 e2 h1 h2 h3 st
    subst h1; subst h2; subst h3
    exact Or.inl ⟨v, (T.setVm vm₁).calling g' mk As.toArray, t, U', L, hT, X', hL, e1, e2, hq, st⟩
  · dsimp only [Pt.U, Pt.locs, Pt.cells, Pt.slots] at X' e1 e2 h1 h2 h3 st hcl
    subst h1; subst h2; subst h3
    exact Or.inr ⟨q, (T.setVm vm₁).calling g' mk As.toArray, t, U', L, E, ce, hT, X', hL, e1, e2, hq, hce, hcv, vx_cls hW₁ hcl, st⟩
end
end VXH
theorem vx_ofWH {l : Launch} {y : MethodName} {ws ws' : List Cond} {rm : Room} {Pc : Array Value → State → Prop} {Qc : Array Value → State → Outcome → State → Prop} {XC : String → State → State → Prop} {mc ms : Nat} {free : Addr → Prop} {cc : ByteArray} {maxL : Nat} {ret : Option FieldType} {hh : List (Nat × Nat × Nat × Nat)}
    (hy : plainName y.cls = true) (hw : ws = Cond.codeWith y cc maxL ret hh :: ws')
    (body : ∀ p e s m args below meth c s₁, BodyLoose p l y (headSpec ws rm) cc maxL ret e s m args below meth c s₁ → c.maxLocals = maxL → Pc args s →
      W p l e (headSpec ws rm).room s m args below meth c s.heap [] 0 0 (vx_MQ below Qc XC args s mc ms free) (entryFrame m args maxL)) : vx_Met l y ws rm Pc Qc XC mc ms free := by
  refine MetFree.of_bodyS (code := cc) (maxLocals := maxL) (ret := ret) hy ?_ ?_
  · intro args s m h hn
    obtain ⟨m9, meth, c, hn9, h1, h2, h3, h4, -, h5, h6, -⟩ := Cond.codeWith_spec (atoms_spec (ws := ws) h _ (by rw [hw]; exact List.mem_cons_self))
    cases hn.symm.trans hn9
    exact ⟨meth, c, h1, h2, h3, h4, h5, h6⟩
  · intro p e s m args below meth c s₁ B hml hP _
    have hh0 : s₁.heap = s.heap := by rw [B.state]; rfl
    obtain ⟨t, a1, o, b1, b2, b3⟩ := body p e s m args below meth c s₁ B hml hP s₁ hh0 (Stand.of_body B)
    exact ⟨t, o, a1, b1, b2, b3⟩
/-! ===== END ===== -/
end
section
/-! ===== BEGIN printed: names, fields, word lists, decode rows ===== -/
def RX0 : String := "ChuteLoft$Flight"
def TX0 : u_T := fun k => match k with
  | 0 => ("ChuteLoft$Flight", "jumps", "[LChuteLoft$Jump;", true)
  | _ => ("ChuteLoft$Flight", "size", "I", false)
def tyX0 : Nat → FieldType := fun k => match k with
  | 0 => .array (.object "ChuteLoft$Jump")
  | _ => .int
abbrev wsX00 : List Cond := u_ws RX0 TX0 2
theorem nmX0 : ∀ a, a < 2 → ∀ b, b < 2 → a ≠ b → (TX0 a).2.1 ≠ (TX0 b).2.1 := by decide +kernel
theorem tyX0_ok : ∀ k, k < 2 → parseFieldDescriptor (TX0 k).2.2.1 = some (tyX0 k) := by decide +kernel
abbrev cX0_init : ByteArray := prog_2_method_1_code
def yX0_init : MethodName := ⟨RX0, "<init>", "()V"⟩
abbrev cX0_jumpAt : ByteArray := prog_2_method_2_code
def yX0_jumpAt : MethodName := ⟨RX0, "jumpAt", "(I)LChuteLoft$Jump;"⟩
abbrev cX0_leave : ByteArray := prog_2_method_3_code
def yX0_leave : MethodName := ⟨RX0, "leave", "(IILChuteLoft$Winds;)V"⟩
abbrev cX0_run : ByteArray := prog_2_method_4_code
def yX0_run : MethodName := ⟨RX0, "run", "(LChuteLoft$Winds;)I"⟩
abbrev cX0_goOn : ByteArray := prog_2_method_5_code
def yX0_goOn : MethodName := ⟨RX0, "goOn", "(ILChuteLoft$Winds;)Z"⟩
abbrev cX0_countNewPairs : ByteArray := prog_2_method_6_code
def yX0_countNewPairs : MethodName := ⟨RX0, "countNewPairs", "()I"⟩
def RX1 : String := "ChuteLoft$Jump"
def TX1 : u_T := fun k => match k with
  | 0 => ("ChuteLoft$Jump", "opensIn", "I", false)
  | 1 => ("ChuteLoft$Jump", "ticksOfFall", "I", false)
  | 2 => ("ChuteLoft$Jump", "ticksOfGlide", "I", false)
  | 3 => ("ChuteLoft$Jump", "forward", "D", false)
  | 4 => ("ChuteLoft$Jump", "isTrouble", "Z", false)
  | 5 => ("ChuteLoft$Jump", "leavesAt", "I", false)
  | 6 => ("ChuteLoft$Jump", "layer", "I", false)
  | 7 => ("ChuteLoft$Jump", "ticksHere", "I", false)
  | 8 => ("ChuteLoft$Jump", "x", "D", false)
  | 9 => ("ChuteLoft$Jump", "y", "D", false)
  | _ => ("ChuteLoft$Jump", "metBits", "I", false)
def tyX1 : Nat → FieldType := fun k => match k with
  | 0 => .int
  | 1 => .int
  | 2 => .int
  | 3 => .double
  | 4 => .boolean
  | 5 => .int
  | 6 => .int
  | 7 => .int
  | 8 => .double
  | 9 => .double
  | _ => .int
abbrev wsX10 : List Cond := u_ws RX1 TX1 11
theorem nmX1 : ∀ a, a < 11 → ∀ b, b < 11 → a ≠ b → (TX1 a).2.1 ≠ (TX1 b).2.1 := by decide +kernel
theorem tyX1_ok : ∀ k, k < 11 → parseFieldDescriptor (TX1 k).2.2.1 = some (tyX1 k) := by decide +kernel
abbrev cX1_init : ByteArray := prog_3_method_1_code
def yX1_init : MethodName := ⟨RX1, "<init>", "()V"⟩
abbrev cX1_plan : ByteArray := prog_3_method_2_code
def yX1_plan : MethodName := ⟨RX1, "plan", "(IIIF)V"⟩
abbrev cX1_planReserve : ByteArray := prog_3_method_3_code
def yX1_planReserve : MethodName := ⟨RX1, "planReserve", "()V"⟩
abbrev cX1_leave : ByteArray := prog_3_method_4_code
def yX1_leave : MethodName := ⟨RX1, "leave", "(DI)V"⟩
abbrev cX1_isDown : ByteArray := prog_3_method_5_code
def yX1_isDown : MethodName := ⟨RX1, "isDown", "()Z"⟩
abbrev cX1_isGliding : ByteArray := prog_3_method_6_code
def yX1_isGliding : MethodName := ⟨RX1, "isGliding", "()Z"⟩
abbrev cX1_comeDown : ByteArray := prog_3_method_7_code
def yX1_comeDown : MethodName := ⟨RX1, "comeDown", "(LChuteLoft$Winds;)I"⟩
abbrev cX1_goOn : ByteArray := prog_3_method_8_code
def yX1_goOn : MethodName := ⟨RX1, "goOn", "(LChuteLoft$Winds;)V"⟩
abbrev cX1_steer : ByteArray := prog_3_method_9_code
def yX1_steer : MethodName := ⟨RX1, "steer", "()V"⟩
abbrev cX1_nearer : ByteArray := prog_3_method_10_code
def yX1_nearer : MethodName := ⟨RX1, "nearer", "(DD)D"⟩
abbrev cX1_sizeOf : ByteArray := prog_3_method_11_code
def yX1_sizeOf : MethodName := ⟨RX1, "sizeOf", "(D)D"⟩
abbrev cX1_far : ByteArray := prog_3_method_12_code
def yX1_far : MethodName := ⟨RX1, "far", "()D"⟩
abbrev cX1_points : ByteArray := prog_3_method_13_code
def yX1_points : MethodName := ⟨RX1, "points", "()I"⟩
abbrev cX1_isNear : ByteArray := prog_3_method_14_code
def yX1_isNear : MethodName := ⟨RX1, "isNear", "(LChuteLoft$Jump;)Z"⟩
def RX2 : String := "ChuteLoft$Jumper"
def TX2 : u_T := fun k => match k with
  | 0 => ("ChuteLoft$Jumper", "weight", "I", false)
  | 1 => ("ChuteLoft$Jumper", "licence", "I", false)
  | 2 => ("ChuteLoft$Jumper", "rig", "I", false)
  | 3 => ("ChuteLoft$Jumper", "lastDay", "I", false)
  | 4 => ("ChuteLoft$Jumper", "jumps", "I", false)
  | 5 => ("ChuteLoft$Jumper", "points", "I", false)
  | 6 => ("ChuteLoft$Jumper", "packedToday", "I", false)
  | 7 => ("ChuteLoft$Jumper", "troubles", "I", false)
  | 8 => ("ChuteLoft$Jumper", "landedX", "D", false)
  | 9 => ("ChuteLoft$Jumper", "landedY", "D", false)
  | 10 => ("ChuteLoft$Jumper", "style", "I", false)
  | _ => ("ChuteLoft$Jumper", "open", "I", false)
def tyX2 : Nat → FieldType := fun k => match k with
  | 0 => .int
  | 1 => .int
  | 2 => .int
  | 3 => .int
  | 4 => .int
  | 5 => .int
  | 6 => .int
  | 7 => .int
  | 8 => .double
  | 9 => .double
  | 10 => .int
  | _ => .int
abbrev wsX20 : List Cond := u_ws RX2 TX2 12
theorem nmX2 : ∀ a, a < 12 → ∀ b, b < 12 → a ≠ b → (TX2 a).2.1 ≠ (TX2 b).2.1 := by decide +kernel
theorem tyX2_ok : ∀ k, k < 12 → parseFieldDescriptor (TX2 k).2.2.1 = some (tyX2 k) := by decide +kernel
abbrev cX2_init : ByteArray := prog_4_method_1_code
def yX2_init : MethodName := ⟨RX2, "<init>", "()V"⟩
def RX3 : String := "ChuteLoft$Rig"
def TX3 : u_T := fun k => match k with
  | 0 => ("ChuteLoft$Rig", "area", "I", false)
  | 1 => ("ChuteLoft$Rig", "due", "I", false)
  | 2 => ("ChuteLoft$Rig", "neat", "I", false)
  | 3 => ("ChuteLoft$Rig", "packed", "Z", false)
  | _ => ("ChuteLoft$Rig", "wear", "F", false)
def tyX3 : Nat → FieldType := fun k => match k with
  | 0 => .int
  | 1 => .int
  | 2 => .int
  | 3 => .boolean
  | _ => .float
abbrev wsX30 : List Cond := u_ws RX3 TX3 5
theorem nmX3 : ∀ a, a < 5 → ∀ b, b < 5 → a ≠ b → (TX3 a).2.1 ≠ (TX3 b).2.1 := by decide +kernel
theorem tyX3_ok : ∀ k, k < 5 → parseFieldDescriptor (TX3 k).2.2.1 = some (tyX3 k) := by decide +kernel
abbrev cX3_init : ByteArray := prog_5_method_1_code
def yX3_init : MethodName := ⟨RX3, "<init>", "()V"⟩
def RX4 : String := "ChuteLoft$Winds"
def TX4 : u_T := fun k => match k with
  | 0 => ("ChuteLoft$Winds", "x", "[I", true)
  | _ => ("ChuteLoft$Winds", "y", "[I", true)
def tyX4 : Nat → FieldType := fun k => match k with
  | 0 => .array .int
  | _ => .array .int
abbrev wsX40 : List Cond := u_ws RX4 TX4 2
theorem nmX4 : ∀ a, a < 2 → ∀ b, b < 2 → a ≠ b → (TX4 a).2.1 ≠ (TX4 b).2.1 := by decide +kernel
theorem tyX4_ok : ∀ k, k < 2 → parseFieldDescriptor (TX4 k).2.2.1 = some (tyX4 k) := by decide +kernel
abbrev cX4_init : ByteArray := prog_6_method_1_code
def yX4_init : MethodName := ⟨RX4, "<init>", "()V"⟩
abbrev cX4_tell : ByteArray := prog_6_method_2_code
def yX4_tell : MethodName := ⟨RX4, "tell", "(III)V"⟩
abbrev cX4_xOf : ByteArray := prog_6_method_3_code
def yX4_xOf : MethodName := ⟨RX4, "xOf", "(I)I"⟩
abbrev cX4_yOf : ByteArray := prog_6_method_4_code
def yX4_yOf : MethodName := ⟨RX4, "yOf", "(I)I"⟩
abbrev cX4_ground : ByteArray := prog_6_method_5_code
def yX4_ground : MethodName := ⟨RX4, "ground", "()I"⟩
def RX5 : String := "ChuteLoft"
def TX5 : u_T := fun k => match k with
  | 0 => ("ChuteLoft", "jumpers", "[LChuteLoft$Jumper;", true)
  | 1 => ("ChuteLoft", "jumperCount", "I", false)
  | 2 => ("ChuteLoft", "rigs", "[LChuteLoft$Rig;", true)
  | 3 => ("ChuteLoft", "rigCount", "I", false)
  | 4 => ("ChuteLoft", "winds", "LChuteLoft$Winds;", true)
  | 5 => ("ChuteLoft", "line", "[I", true)
  | 6 => ("ChuteLoft", "aboard", "I", false)
  | 7 => ("ChuteLoft", "held", "Z", false)
  | 8 => ("ChuteLoft", "flight", "LChuteLoft$Flight;", true)
  | 9 => ("ChuteLoft", "alone", "LChuteLoft$Jump;", true)
  | 10 => ("ChuteLoft", "day", "I", false)
  | 11 => ("ChuteLoft", "draw", "I", false)
  | 12 => ("ChuteLoft", "flights", "I", false)
  | 13 => ("ChuteLoft", "jumps", "I", false)
  | 14 => ("ChuteLoft", "troubles", "I", false)
  | 15 => ("ChuteLoft", "off", "I", false)
  | 16 => ("ChuteLoft", "met", "I", false)
  | _ => ("ChuteLoft", "refused", "I", false)
def tyX5 : Nat → FieldType := fun k => match k with
  | 0 => .array (.object "ChuteLoft$Jumper")
  | 1 => .int
  | 2 => .array (.object "ChuteLoft$Rig")
  | 3 => .int
  | 4 => .object "ChuteLoft$Winds"
  | 5 => .array .int
  | 6 => .int
  | 7 => .boolean
  | 8 => .object "ChuteLoft$Flight"
  | 9 => .object "ChuteLoft$Jump"
  | 10 => .int
  | 11 => .int
  | 12 => .int
  | 13 => .int
  | 14 => .int
  | 15 => .int
  | 16 => .int
  | _ => .int
abbrev wsX50 : List Cond := u_ws RX5 TX5 18
theorem nmX5 : ∀ a, a < 18 → ∀ b, b < 18 → a ≠ b → (TX5 a).2.1 ≠ (TX5 b).2.1 := by decide +kernel
theorem tyX5_ok : ∀ k, k < 18 → parseFieldDescriptor (TX5 k).2.2.1 = some (tyX5 k) := by decide +kernel
abbrev cX5_init : ByteArray := prog_1_method_1_code
def yX5_init : MethodName := ⟨RX5, "<init>", "()V"⟩
abbrev cX5_jumper : ByteArray := prog_1_method_2_code
def yX5_jumper : MethodName := ⟨RX5, "jumper", "(II)I"⟩
abbrev cX5_rig : ByteArray := prog_1_method_3_code
def yX5_rig : MethodName := ⟨RX5, "rig", "(II)I"⟩
abbrev cX5_lend : ByteArray := prog_1_method_4_code
def yX5_lend : MethodName := ⟨RX5, "lend", "(II)I"⟩
abbrev cX5_pack : ByteArray := prog_1_method_5_code
def yX5_pack : MethodName := ⟨RX5, "pack", "(II)I"⟩
abbrev cX5_renew : ByteArray := prog_1_method_6_code
def yX5_renew : MethodName := ⟨RX5, "renew", "(I)I"⟩
abbrev cX5_pass : ByteArray := prog_1_method_7_code
def yX5_pass : MethodName := ⟨RX5, "pass", "(I)I"⟩
abbrev cX5_wind : ByteArray := prog_1_method_8_code
def yX5_wind : MethodName := ⟨RX5, "wind", "(III)I"⟩
abbrev cX5_board : ByteArray := prog_1_method_9_code
def yX5_board : MethodName := ⟨RX5, "board", "(III)I"⟩
abbrev cX5_empty : ByteArray := prog_1_method_10_code
def yX5_empty : MethodName := ⟨RX5, "empty", "()I"⟩
abbrev cX5_fly : ByteArray := prog_1_method_11_code
def yX5_fly : MethodName := ⟨RX5, "fly", "(II)I"⟩
abbrev cX5_hold : ByteArray := prog_1_method_12_code
def yX5_hold : MethodName := ⟨RX5, "hold", "(Z)Z"⟩
abbrev cX5_gong : ByteArray := prog_1_method_13_code
def yX5_gong : MethodName := ⟨RX5, "gong", "()I"⟩
abbrev cX5_ofJumper : ByteArray := prog_1_method_14_code
def yX5_ofJumper : MethodName := ⟨RX5, "ofJumper", "(II)I"⟩
abbrev cX5_loading : ByteArray := prog_1_method_15_code
def yX5_loading : MethodName := ⟨RX5, "loading", "(I)D"⟩
abbrev cX5_landed : ByteArray := prog_1_method_16_code
def yX5_landed : MethodName := ⟨RX5, "landed", "(IZ)D"⟩
abbrev cX5_refuses : ByteArray := prog_1_method_17_code
def yX5_refuses : MethodName := ⟨RX5, "refuses", "(I)I"⟩
abbrev cX5_ofRig : ByteArray := prog_1_method_18_code
def yX5_ofRig : MethodName := ⟨RX5, "ofRig", "(II)I"⟩
abbrev cX5_wear : ByteArray := prog_1_method_19_code
def yX5_wear : MethodName := ⟨RX5, "wear", "(I)D"⟩
abbrev cX5_ofWind : ByteArray := prog_1_method_20_code
def yX5_ofWind : MethodName := ⟨RX5, "ofWind", "(IZ)I"⟩
abbrev cX5_many : ByteArray := prog_1_method_21_code
def yX5_many : MethodName := ⟨RX5, "many", "(I)I"⟩
abbrev cX5_order : ByteArray := prog_1_method_22_code
def yX5_order : MethodName := ⟨RX5, "order", "(I)I"⟩
abbrev cX5_wouldLand : ByteArray := prog_1_method_23_code
def yX5_wouldLand : MethodName := ⟨RX5, "wouldLand", "(IIIIZ)D"⟩
abbrev cX5_takes : ByteArray := prog_1_method_24_code
def yX5_takes : MethodName := ⟨RX5, "takes", "(III)I"⟩
abbrev cX5_spot : ByteArray := prog_1_method_25_code
def yX5_spot : MethodName := ⟨RX5, "spot", "(I)I"⟩
abbrev cX5_wouldMeet : ByteArray := prog_1_method_26_code
def yX5_wouldMeet : MethodName := ⟨RX5, "wouldMeet", "(II)I"⟩
abbrev cX5_best : ByteArray := prog_1_method_27_code
def yX5_best : MethodName := ⟨RX5, "best", "(I)I"⟩
abbrev cX5_digest : ByteArray := prog_1_method_28_code
def yX5_digest : MethodName := ⟨RX5, "digest", "()J"⟩
abbrev cX5_digestOfJumper : ByteArray := prog_1_method_29_code
def yX5_digestOfJumper : MethodName := ⟨RX5, "digestOfJumper", "(JI)J"⟩
abbrev cX5_digestOfRig : ByteArray := prog_1_method_30_code
def yX5_digestOfRig : MethodName := ⟨RX5, "digestOfRig", "(JI)J"⟩
abbrev cX5_checkArgument : ByteArray := prog_1_method_31_code
def yX5_checkArgument : MethodName := ⟨RX5, "checkArgument", "(III)V"⟩
abbrev cX5_checkLayer : ByteArray := prog_1_method_32_code
def yX5_checkLayer : MethodName := ⟨RX5, "checkLayer", "(I)V"⟩
abbrev cX5_jumperAt : ByteArray := prog_1_method_33_code
def yX5_jumperAt : MethodName := ⟨RX5, "jumperAt", "(I)LChuteLoft$Jumper;"⟩
abbrev cX5_rigAt : ByteArray := prog_1_method_34_code
def yX5_rigAt : MethodName := ⟨RX5, "rigAt", "(I)LChuteLoft$Rig;"⟩
abbrev cX5_holderOf : ByteArray := prog_1_method_35_code
def yX5_holderOf : MethodName := ⟨RX5, "holderOf", "(I)I"⟩
abbrev cX5_placeOf : ByteArray := prog_1_method_36_code
def yX5_placeOf : MethodName := ⟨RX5, "placeOf", "(I)I"⟩
abbrev cX5_loadingOf : ByteArray := prog_1_method_37_code
def yX5_loadingOf : MethodName := ⟨RX5, "loadingOf", "(LChuteLoft$Jumper;)F"⟩
abbrev cX5_loadingWith : ByteArray := prog_1_method_38_code
def yX5_loadingWith : MethodName := ⟨RX5, "loadingWith", "(LChuteLoft$Jumper;LChuteLoft$Rig;)F"⟩
abbrev cX5_limitOf : ByteArray := prog_1_method_39_code
def yX5_limitOf : MethodName := ⟨RX5, "limitOf", "([II)I"⟩
abbrev cX5_isLet : ByteArray := prog_1_method_40_code
def yX5_isLet : MethodName := ⟨RX5, "isLet", "(LChuteLoft$Jumper;F)Z"⟩
abbrev cX5_whyNot : ByteArray := prog_1_method_41_code
def yX5_whyNot : MethodName := ⟨RX5, "whyNot", "(I)I"⟩
abbrev cX5_lineUp : ByteArray := prog_1_method_42_code
def yX5_lineUp : MethodName := ⟨RX5, "lineUp", "(I)V"⟩
abbrev cX5_setPlace : ByteArray := prog_1_method_43_code
def yX5_setPlace : MethodName := ⟨RX5, "setPlace", "(II)V"⟩
abbrev cX5_goesAhead : ByteArray := prog_1_method_44_code
def yX5_goesAhead : MethodName := ⟨RX5, "goesAhead", "(II)Z"⟩
abbrev cX5_planAlone : ByteArray := prog_1_method_45_code
def yX5_planAlone : MethodName := ⟨RX5, "planAlone", "(LChuteLoft$Jumper;II)V"⟩
abbrev cX5_planFlight : ByteArray := prog_1_method_46_code
def yX5_planFlight : MethodName := ⟨RX5, "planFlight", "()V"⟩
abbrev cX5_drawTroubles : ByteArray := prog_1_method_47_code
def yX5_drawTroubles : MethodName := ⟨RX5, "drawTroubles", "()V"⟩
abbrev cX5_pointsFrom : ByteArray := prog_1_method_48_code
def yX5_pointsFrom : MethodName := ⟨RX5, "pointsFrom", "(II)I"⟩
abbrev cX5_settle : ByteArray := prog_1_method_49_code
def yX5_settle : MethodName := ⟨RX5, "settle", "(LChuteLoft$Jumper;LChuteLoft$Jump;)I"⟩
def RX6 : String := "ChuteLoftModel$Jump"
def TX6 : u_T := fun k => match k with
  | 0 => ("ChuteLoftModel$Jump", "its", "LChuteLoftModel$Jumper;", true)
  | 1 => ("ChuteLoftModel$Jump", "from", "I", true)
  | 2 => ("ChuteLoftModel$Jump", "style", "I", true)
  | 3 => ("ChuteLoftModel$Jump", "loading", "F", true)
  | 4 => ("ChuteLoftModel$Jump", "x", "D", false)
  | 5 => ("ChuteLoftModel$Jump", "y", "D", false)
  | 6 => ("ChuteLoftModel$Jump", "layer", "I", false)
  | 7 => ("ChuteLoftModel$Jump", "ticks", "I", false)
  | 8 => ("ChuteLoftModel$Jump", "open", "I", false)
  | 9 => ("ChuteLoftModel$Jump", "isOpen", "Z", false)
  | 10 => ("ChuteLoftModel$Jump", "isReserve", "Z", false)
  | 11 => ("ChuteLoftModel$Jump", "isTrouble", "Z", false)
  | _ => ("ChuteLoftModel$Jump", "this$0", "LChuteLoftModel;", true)
def tyX6 : Nat → FieldType := fun k => match k with
  | 0 => .object "ChuteLoftModel$Jumper"
  | 1 => .int
  | 2 => .int
  | 3 => .float
  | 4 => .double
  | 5 => .double
  | 6 => .int
  | 7 => .int
  | 8 => .int
  | 9 => .boolean
  | 10 => .boolean
  | 11 => .boolean
  | _ => .object "ChuteLoftModel"
abbrev wsX60 : List Cond := u_ws RX6 TX6 13
theorem nmX6 : ∀ a, a < 13 → ∀ b, b < 13 → a ≠ b → (TX6 a).2.1 ≠ (TX6 b).2.1 := by decide +kernel
theorem tyX6_ok : ∀ k, k < 13 → parseFieldDescriptor (TX6 k).2.2.1 = some (tyX6 k) := by decide +kernel
abbrev cX6_init : ByteArray := prog_9_method_1_code
def yX6_init : MethodName := ⟨RX6, "<init>", "(LChuteLoftModel;LChuteLoftModel$Jumper;IIID)V"⟩
abbrev cX6_isDown : ByteArray := prog_9_method_2_code
def yX6_isDown : MethodName := ⟨RX6, "isDown", "()Z"⟩
abbrev cX6_stay : ByteArray := prog_9_method_3_code
def yX6_stay : MethodName := ⟨RX6, "stay", "()I"⟩
abbrev cX6_forward : ByteArray := prog_9_method_4_code
def yX6_forward : MethodName := ⟨RX6, "forward", "()D"⟩
abbrev cX6_tick : ByteArray := prog_9_method_5_code
def yX6_tick : MethodName := ⟨RX6, "tick", "()V"⟩
abbrev cX6_steer : ByteArray := prog_9_method_6_code
def yX6_steer : MethodName := ⟨RX6, "steer", "()V"⟩
abbrev cX6_nearer : ByteArray := prog_9_method_7_code
def yX6_nearer : MethodName := ⟨RX6, "nearer", "(DD)D"⟩
abbrev cX6_far : ByteArray := prog_9_method_8_code
def yX6_far : MethodName := ⟨RX6, "far", "()D"⟩
abbrev cX6_points : ByteArray := prog_9_method_9_code
def yX6_points : MethodName := ⟨RX6, "points", "()I"⟩
abbrev cX6_meets : ByteArray := prog_9_method_10_code
def yX6_meets : MethodName := ⟨RX6, "meets", "(LChuteLoftModel$Jump;)Z"⟩
def RX7 : String := "ChuteLoftModel$Jumper"
def TX7 : u_T := fun k => match k with
  | 0 => ("ChuteLoftModel$Jumper", "weight", "I", true)
  | 1 => ("ChuteLoftModel$Jumper", "licence", "I", true)
  | 2 => ("ChuteLoftModel$Jumper", "rig", "I", false)
  | 3 => ("ChuteLoftModel$Jumper", "last", "I", false)
  | 4 => ("ChuteLoftModel$Jumper", "jumps", "I", false)
  | 5 => ("ChuteLoftModel$Jumper", "points", "I", false)
  | 6 => ("ChuteLoftModel$Jumper", "packed", "I", false)
  | 7 => ("ChuteLoftModel$Jumper", "troubles", "I", false)
  | 8 => ("ChuteLoftModel$Jumper", "x", "D", false)
  | 9 => ("ChuteLoftModel$Jumper", "y", "D", false)
  | 10 => ("ChuteLoftModel$Jumper", "style", "I", false)
  | _ => ("ChuteLoftModel$Jumper", "open", "I", false)
def tyX7 : Nat → FieldType := fun k => match k with
  | 0 => .int
  | 1 => .int
  | 2 => .int
  | 3 => .int
  | 4 => .int
  | 5 => .int
  | 6 => .int
  | 7 => .int
  | 8 => .double
  | 9 => .double
  | 10 => .int
  | _ => .int
abbrev wsX70 : List Cond := u_ws RX7 TX7 12
theorem nmX7 : ∀ a, a < 12 → ∀ b, b < 12 → a ≠ b → (TX7 a).2.1 ≠ (TX7 b).2.1 := by decide +kernel
theorem tyX7_ok : ∀ k, k < 12 → parseFieldDescriptor (TX7 k).2.2.1 = some (tyX7 k) := by decide +kernel
abbrev cX7_init : ByteArray := prog_10_method_1_code
def yX7_init : MethodName := ⟨RX7, "<init>", "(III)V"⟩
def RX8 : String := "ChuteLoftModel$Rig"
def TX8 : u_T := fun k => match k with
  | 0 => ("ChuteLoftModel$Rig", "area", "I", true)
  | 1 => ("ChuteLoftModel$Rig", "due", "I", false)
  | 2 => ("ChuteLoftModel$Rig", "neat", "I", false)
  | 3 => ("ChuteLoftModel$Rig", "isPacked", "Z", false)
  | _ => ("ChuteLoftModel$Rig", "wear", "F", false)
def tyX8 : Nat → FieldType := fun k => match k with
  | 0 => .int
  | 1 => .int
  | 2 => .int
  | 3 => .boolean
  | _ => .float
abbrev wsX80 : List Cond := u_ws RX8 TX8 5
theorem nmX8 : ∀ a, a < 5 → ∀ b, b < 5 → a ≠ b → (TX8 a).2.1 ≠ (TX8 b).2.1 := by decide +kernel
theorem tyX8_ok : ∀ k, k < 5 → parseFieldDescriptor (TX8 k).2.2.1 = some (tyX8 k) := by decide +kernel
abbrev cX8_init : ByteArray := prog_11_method_1_code
def yX8_init : MethodName := ⟨RX8, "<init>", "(II)V"⟩
def RX9 : String := "ChuteLoftModel"
def TX9 : u_T := fun k => match k with
  | 0 => ("ChuteLoftModel", "thrown", "I", false)
  | 1 => ("ChuteLoftModel", "jumpers", "Ljava/util/List;", true)
  | 2 => ("ChuteLoftModel", "rigs", "Ljava/util/List;", true)
  | 3 => ("ChuteLoftModel", "wx", "[I", true)
  | 4 => ("ChuteLoftModel", "wy", "[I", true)
  | 5 => ("ChuteLoftModel", "day", "I", false)
  | 6 => ("ChuteLoftModel", "draw", "I", false)
  | 7 => ("ChuteLoftModel", "flights", "I", false)
  | 8 => ("ChuteLoftModel", "jumps", "I", false)
  | 9 => ("ChuteLoftModel", "troubles", "I", false)
  | 10 => ("ChuteLoftModel", "offs", "I", false)
  | 11 => ("ChuteLoftModel", "met", "I", false)
  | 12 => ("ChuteLoftModel", "isHeld", "Z", false)
  | _ => ("ChuteLoftModel", "refused", "I", false)
def tyX9 : Nat → FieldType := fun k => match k with
  | 0 => .int
  | 1 => .object "java/util/List"
  | 2 => .object "java/util/List"
  | 3 => .array .int
  | 4 => .array .int
  | 5 => .int
  | 6 => .int
  | 7 => .int
  | 8 => .int
  | 9 => .int
  | 10 => .int
  | 11 => .int
  | 12 => .boolean
  | _ => .int
abbrev wsX90 : List Cond := u_ws RX9 TX9 14
theorem nmX9 : ∀ a, a < 14 → ∀ b, b < 14 → a ≠ b → (TX9 a).2.1 ≠ (TX9 b).2.1 := by decide +kernel
theorem tyX9_ok : ∀ k, k < 14 → parseFieldDescriptor (TX9 k).2.2.1 = some (tyX9 k) := by decide +kernel
abbrev cX9_init : ByteArray := prog_8_method_1_code
def yX9_init : MethodName := ⟨RX9, "<init>", "()V"⟩
abbrev cX9_thrown : ByteArray := prog_8_method_2_code
def yX9_thrown : MethodName := ⟨RX9, "thrown", "()I"⟩
abbrev cX9_no : ByteArray := prog_8_method_3_code
def yX9_no : MethodName := ⟨RX9, "no", "(I)I"⟩
abbrev cX9_in : ByteArray := prog_8_method_4_code
def yX9_in : MethodName := ⟨RX9, "in", "(III)Z"⟩
abbrev cX9_isJumper : ByteArray := prog_8_method_5_code
def yX9_isJumper : MethodName := ⟨RX9, "isJumper", "(I)Z"⟩
abbrev cX9_isRig : ByteArray := prog_8_method_6_code
def yX9_isRig : MethodName := ⟨RX9, "isRig", "(I)Z"⟩
abbrev cX9_loading : ByteArray := prog_8_method_7_code
def yX9_loading : MethodName := ⟨RX9, "loading", "(LChuteLoftModel$Jumper;LChuteLoftModel$Rig;)F"⟩
abbrev cX9_loading_ : ByteArray := prog_8_method_8_code
def yX9_loading_ : MethodName := ⟨RX9, "loading", "(LChuteLoftModel$Jumper;)F"⟩
abbrev cX9_holder : ByteArray := prog_8_method_9_code
def yX9_holder : MethodName := ⟨RX9, "holder", "(I)I"⟩
abbrev cX9_aboard : ByteArray := prog_8_method_10_code
def yX9_aboard : MethodName := ⟨RX9, "aboard", "()I"⟩
abbrev cX9_ground : ByteArray := prog_8_method_11_code
def yX9_ground : MethodName := ⟨RX9, "ground", "()I"⟩
abbrev cX9_isAhead : ByteArray := prog_8_method_12_code
def yX9_isAhead : MethodName := ⟨RX9, "isAhead", "(II)Z"⟩
abbrev cX9_placeOf : ByteArray := prog_8_method_13_code
def yX9_placeOf : MethodName := ⟨RX9, "placeOf", "(I)I"⟩
abbrev cX9_at : ByteArray := prog_8_method_14_code
def yX9_at : MethodName := ⟨RX9, "at", "(I)I"⟩
abbrev cX9_flight : ByteArray := prog_8_method_15_code
def yX9_flight : MethodName := ⟨RX9, "flight", "(II)Ljava/util/List;"⟩
abbrev cX9_go : ByteArray := prog_8_method_16_code
def yX9_go : MethodName := ⟨RX9, "go", "(Ljava/util/List;)I"⟩
abbrev cX9_points : ByteArray := prog_8_method_17_code
def yX9_points : MethodName := ⟨RX9, "points", "(Ljava/util/List;)I"⟩
abbrev cX9_jumper : ByteArray := prog_8_method_18_code
def yX9_jumper : MethodName := ⟨RX9, "jumper", "(II)I"⟩
abbrev cX9_rig : ByteArray := prog_8_method_19_code
def yX9_rig : MethodName := ⟨RX9, "rig", "(II)I"⟩
abbrev cX9_lend : ByteArray := prog_8_method_20_code
def yX9_lend : MethodName := ⟨RX9, "lend", "(II)I"⟩
abbrev cX9_pack : ByteArray := prog_8_method_21_code
def yX9_pack : MethodName := ⟨RX9, "pack", "(II)I"⟩
abbrev cX9_renew : ByteArray := prog_8_method_22_code
def yX9_renew : MethodName := ⟨RX9, "renew", "(I)I"⟩
abbrev cX9_pass : ByteArray := prog_8_method_23_code
def yX9_pass : MethodName := ⟨RX9, "pass", "(I)I"⟩
abbrev cX9_wind : ByteArray := prog_8_method_24_code
def yX9_wind : MethodName := ⟨RX9, "wind", "(III)I"⟩
abbrev cX9_most : ByteArray := prog_8_method_25_code
def yX9_most : MethodName := ⟨RX9, "most", "(LChuteLoftModel$Jumper;)F"⟩
abbrev cX9_why : ByteArray := prog_8_method_26_code
def yX9_why : MethodName := ⟨RX9, "why", "(LChuteLoftModel$Jumper;)I"⟩
abbrev cX9_board : ByteArray := prog_8_method_27_code
def yX9_board : MethodName := ⟨RX9, "board", "(III)I"⟩
abbrev cX9_empty : ByteArray := prog_8_method_28_code
def yX9_empty : MethodName := ⟨RX9, "empty", "()I"⟩
abbrev cX9_fly : ByteArray := prog_8_method_29_code
def yX9_fly : MethodName := ⟨RX9, "fly", "(II)I"⟩
abbrev cX9_land : ByteArray := prog_8_method_30_code
def yX9_land : MethodName := ⟨RX9, "land", "(LChuteLoftModel$Jump;)V"⟩
abbrev cX9_hold : ByteArray := prog_8_method_31_code
def yX9_hold : MethodName := ⟨RX9, "hold", "(Z)Z"⟩
abbrev cX9_gong : ByteArray := prog_8_method_32_code
def yX9_gong : MethodName := ⟨RX9, "gong", "()I"⟩
abbrev cX9_jumperNow : ByteArray := prog_8_method_33_code
def yX9_jumperNow : MethodName := ⟨RX9, "jumperNow", "(II)I"⟩
abbrev cX9_ofJumper : ByteArray := prog_8_method_34_code
def yX9_ofJumper : MethodName := ⟨RX9, "ofJumper", "(II)I"⟩
abbrev cX9_loading__ : ByteArray := prog_8_method_35_code
def yX9_loading__ : MethodName := ⟨RX9, "loading", "(I)D"⟩
abbrev cX9_landed : ByteArray := prog_8_method_36_code
def yX9_landed : MethodName := ⟨RX9, "landed", "(IZ)D"⟩
abbrev cX9_refuses : ByteArray := prog_8_method_37_code
def yX9_refuses : MethodName := ⟨RX9, "refuses", "(I)I"⟩
abbrev cX9_rigNow : ByteArray := prog_8_method_38_code
def yX9_rigNow : MethodName := ⟨RX9, "rigNow", "(II)I"⟩
abbrev cX9_ofRig : ByteArray := prog_8_method_39_code
def yX9_ofRig : MethodName := ⟨RX9, "ofRig", "(II)I"⟩
abbrev cX9_wear : ByteArray := prog_8_method_40_code
def yX9_wear : MethodName := ⟨RX9, "wear", "(I)D"⟩
abbrev cX9_ofWind : ByteArray := prog_8_method_41_code
def yX9_ofWind : MethodName := ⟨RX9, "ofWind", "(IZ)I"⟩
abbrev cX9_manyNow : ByteArray := prog_8_method_42_code
def yX9_manyNow : MethodName := ⟨RX9, "manyNow", "(I)I"⟩
abbrev cX9_many : ByteArray := prog_8_method_43_code
def yX9_many : MethodName := ⟨RX9, "many", "(I)I"⟩
abbrev cX9_order : ByteArray := prog_8_method_44_code
def yX9_order : MethodName := ⟨RX9, "order", "(I)I"⟩
abbrev cX9_refusal : ByteArray := prog_8_method_45_code
def yX9_refusal : MethodName := ⟨RX9, "refusal", "(IIII)I"⟩
abbrev cX9_wouldLand : ByteArray := prog_8_method_46_code
def yX9_wouldLand : MethodName := ⟨RX9, "wouldLand", "(IIIIZ)D"⟩
abbrev cX9_takes : ByteArray := prog_8_method_47_code
def yX9_takes : MethodName := ⟨RX9, "takes", "(III)I"⟩
abbrev cX9_spotNow : ByteArray := prog_8_method_48_code
def yX9_spotNow : MethodName := ⟨RX9, "spotNow", "(I)I"⟩
abbrev cX9_spot : ByteArray := prog_8_method_49_code
def yX9_spot : MethodName := ⟨RX9, "spot", "(I)I"⟩
abbrev cX9_wouldMeet : ByteArray := prog_8_method_50_code
def yX9_wouldMeet : MethodName := ⟨RX9, "wouldMeet", "(II)I"⟩
abbrev cX9_bestNow : ByteArray := prog_8_method_51_code
def yX9_bestNow : MethodName := ⟨RX9, "bestNow", "(I)I"⟩
abbrev cX9_best : ByteArray := prog_8_method_52_code
def yX9_best : MethodName := ⟨RX9, "best", "(I)I"⟩
abbrev cX9_digest : ByteArray := prog_8_method_53_code
def yX9_digest : MethodName := ⟨RX9, "digest", "()J"⟩
def RJx145de : String := "java/io/Serializable"
def TJx145de : u_T := fun k => match k with
  | _ => ("", "", "", false)
def tyJx145de : Nat → FieldType := fun k => match k with
  | _ => .int
abbrev wsJx145de0 : List Cond := u_ws RJx145de TJx145de 0
theorem nmJx145de : ∀ a, a < 0 → ∀ b, b < 0 → a ≠ b → (TJx145de a).2.1 ≠ (TJx145de b).2.1 := by decide +kernel
theorem tyJx145de_ok : ∀ k, k < 0 → parseFieldDescriptor (TJx145de k).2.2.1 = some (tyJx145de k) := by decide +kernel
def RJx8e188 : String := "java/lang/Cloneable"
def TJx8e188 : u_T := fun k => match k with
  | _ => ("", "", "", false)
def tyJx8e188 : Nat → FieldType := fun k => match k with
  | _ => .int
abbrev wsJx8e1880 : List Cond := u_ws RJx8e188 TJx8e188 0
theorem nmJx8e188 : ∀ a, a < 0 → ∀ b, b < 0 → a ≠ b → (TJx8e188 a).2.1 ≠ (TJx8e188 b).2.1 := by decide +kernel
theorem tyJx8e188_ok : ∀ k, k < 0 → parseFieldDescriptor (TJx8e188 k).2.2.1 = some (tyJx8e188 k) := by decide +kernel
def RJxb160c : String := "java/lang/Comparable"
def TJxb160c : u_T := fun k => match k with
  | _ => ("", "", "", false)
def tyJxb160c : Nat → FieldType := fun k => match k with
  | _ => .int
abbrev wsJxb160c0 : List Cond := u_ws RJxb160c TJxb160c 0
theorem nmJxb160c : ∀ a, a < 0 → ∀ b, b < 0 → a ≠ b → (TJxb160c a).2.1 ≠ (TJxb160c b).2.1 := by decide +kernel
theorem tyJxb160c_ok : ∀ k, k < 0 → parseFieldDescriptor (TJxb160c k).2.2.1 = some (tyJxb160c k) := by decide +kernel
def RJxe99ae : String := "java/lang/Double"
def TJxe99ae : u_T := fun k => match k with
  | _ => ("", "", "", false)
def tyJxe99ae : Nat → FieldType := fun k => match k with
  | _ => .int
abbrev wsJxe99ae0 : List Cond := u_ws RJxe99ae TJxe99ae 0
theorem nmJxe99ae : ∀ a, a < 0 → ∀ b, b < 0 → a ≠ b → (TJxe99ae a).2.1 ≠ (TJxe99ae b).2.1 := by decide +kernel
theorem tyJxe99ae_ok : ∀ k, k < 0 → parseFieldDescriptor (TJxe99ae k).2.2.1 = some (tyJxe99ae k) := by decide +kernel
def RJxab1ab : String := "java/lang/Iterable"
def TJxab1ab : u_T := fun k => match k with
  | _ => ("", "", "", false)
def tyJxab1ab : Nat → FieldType := fun k => match k with
  | _ => .int
abbrev wsJxab1ab0 : List Cond := u_ws RJxab1ab TJxab1ab 0
theorem nmJxab1ab : ∀ a, a < 0 → ∀ b, b < 0 → a ≠ b → (TJxab1ab a).2.1 ≠ (TJxab1ab b).2.1 := by decide +kernel
theorem tyJxab1ab_ok : ∀ k, k < 0 → parseFieldDescriptor (TJxab1ab k).2.2.1 = some (tyJxab1ab k) := by decide +kernel
def RJ9 : String := "java/lang/Math"
def TJ9 : u_T := fun k => match k with
  | _ => ("", "", "", false)
def tyJ9 : Nat → FieldType := fun k => match k with
  | _ => .int
abbrev wsJ90 : List Cond := u_ws RJ9 TJ9 0
theorem nmJ9 : ∀ a, a < 0 → ∀ b, b < 0 → a ≠ b → (TJ9 a).2.1 ≠ (TJ9 b).2.1 := by decide +kernel
theorem tyJ9_ok : ∀ k, k < 0 → parseFieldDescriptor (TJ9 k).2.2.1 = some (tyJ9 k) := by decide +kernel
abbrev cJ9_abs_0f7a4 : ByteArray := prog_21_method_59_code
def yJ9_abs_0f7a4 : MethodName := ⟨RJ9, "abs", "(I)I"⟩
abbrev cJ9_abs_294c1 : ByteArray := prog_21_method_64_code
def yJ9_abs_294c1 : MethodName := ⟨RJ9, "abs", "(D)D"⟩
abbrev cJ9_max_7cf53 : ByteArray := prog_21_method_65_code
def yJ9_max_7cf53 : MethodName := ⟨RJ9, "max", "(II)I"⟩
abbrev cJ9_max_eb370 : ByteArray := prog_21_method_68_code
def yJ9_max_eb370 : MethodName := ⟨RJ9, "max", "(DD)D"⟩
abbrev cJ9_min_7cf53 : ByteArray := prog_21_method_69_code
def yJ9_min_7cf53 : MethodName := ⟨RJ9, "min", "(II)I"⟩
abbrev cJ9_min_eb370 : ByteArray := prog_21_method_72_code
def yJ9_min_eb370 : MethodName := ⟨RJ9, "min", "(DD)D"⟩
def RJxd2413 : String := "java/lang/Number"
def TJxd2413 : u_T := fun k => match k with
  | _ => ("", "", "", false)
def tyJxd2413 : Nat → FieldType := fun k => match k with
  | _ => .int
abbrev wsJxd24130 : List Cond := u_ws RJxd2413 TJxd2413 0
theorem nmJxd2413 : ∀ a, a < 0 → ∀ b, b < 0 → a ≠ b → (TJxd2413 a).2.1 ≠ (TJxd2413 b).2.1 := by decide +kernel
theorem tyJxd2413_ok : ∀ k, k < 0 → parseFieldDescriptor (TJxd2413 k).2.2.1 = some (tyJxd2413 k) := by decide +kernel
def RJ0 : String := "java/lang/String"
def TJ0 : u_T := fun k => match k with
  | _ => ("", "", "", false)
def tyJ0 : Nat → FieldType := fun k => match k with
  | _ => .int
abbrev wsJ00 : List Cond := u_ws RJ0 TJ0 0
theorem nmJ0 : ∀ a, a < 0 → ∀ b, b < 0 → a ≠ b → (TJ0 a).2.1 ≠ (TJ0 b).2.1 := by decide +kernel
theorem tyJ0_ok : ∀ k, k < 0 → parseFieldDescriptor (TJ0 k).2.2.1 = some (tyJ0 k) := by decide +kernel
def RJ10 : String := "java/lang/System"
def TJ10 : u_T := fun k => match k with
  | _ => ("", "", "", false)
def tyJ10 : Nat → FieldType := fun k => match k with
  | _ => .int
abbrev wsJ100 : List Cond := u_ws RJ10 TJ10 0
theorem nmJ10 : ∀ a, a < 0 → ∀ b, b < 0 → a ≠ b → (TJ10 a).2.1 ≠ (TJ10 b).2.1 := by decide +kernel
theorem tyJ10_ok : ∀ k, k < 0 → parseFieldDescriptor (TJ10 k).2.2.1 = some (tyJ10 k) := by decide +kernel
def RJxfd54e : String := "java/lang/constant/Constable"
def TJxfd54e : u_T := fun k => match k with
  | _ => ("", "", "", false)
def tyJxfd54e : Nat → FieldType := fun k => match k with
  | _ => .int
abbrev wsJxfd54e0 : List Cond := u_ws RJxfd54e TJxfd54e 0
theorem nmJxfd54e : ∀ a, a < 0 → ∀ b, b < 0 → a ≠ b → (TJxfd54e a).2.1 ≠ (TJxfd54e b).2.1 := by decide +kernel
theorem tyJxfd54e_ok : ∀ k, k < 0 → parseFieldDescriptor (TJxfd54e k).2.2.1 = some (tyJxfd54e k) := by decide +kernel
def RJx3cf43 : String := "java/lang/constant/ConstantDesc"
def TJx3cf43 : u_T := fun k => match k with
  | _ => ("", "", "", false)
def tyJx3cf43 : Nat → FieldType := fun k => match k with
  | _ => .int
abbrev wsJx3cf430 : List Cond := u_ws RJx3cf43 TJx3cf43 0
theorem nmJx3cf43 : ∀ a, a < 0 → ∀ b, b < 0 → a ≠ b → (TJx3cf43 a).2.1 ≠ (TJx3cf43 b).2.1 := by decide +kernel
theorem tyJx3cf43_ok : ∀ k, k < 0 → parseFieldDescriptor (TJx3cf43 k).2.2.1 = some (tyJx3cf43 k) := by decide +kernel
def RJxa1e45 : String := "java/util/AbstractCollection"
def TJxa1e45 : u_T := fun k => match k with
  | _ => ("", "", "", false)
def tyJxa1e45 : Nat → FieldType := fun k => match k with
  | _ => .int
abbrev wsJxa1e450 : List Cond := u_ws RJxa1e45 TJxa1e45 0
theorem nmJxa1e45 : ∀ a, a < 0 → ∀ b, b < 0 → a ≠ b → (TJxa1e45 a).2.1 ≠ (TJxa1e45 b).2.1 := by decide +kernel
theorem tyJxa1e45_ok : ∀ k, k < 0 → parseFieldDescriptor (TJxa1e45 k).2.2.1 = some (tyJxa1e45 k) := by decide +kernel
abbrev cJxa1e45_init_da8c8 : ByteArray := prog_29_method_1_code
def yJxa1e45_init_da8c8 : MethodName := ⟨RJxa1e45, "<init>", "()V"⟩
def RJxc12de : String := "java/util/AbstractList"
def TJxc12de : u_T := fun k => match k with
  | _ => ("", "", "", false)
def tyJxc12de : Nat → FieldType := fun k => match k with
  | _ => .int
abbrev wsJxc12de0 : List Cond := u_ws RJxc12de TJxc12de 0
theorem nmJxc12de : ∀ a, a < 0 → ∀ b, b < 0 → a ≠ b → (TJxc12de a).2.1 ≠ (TJxc12de b).2.1 := by decide +kernel
theorem tyJxc12de_ok : ∀ k, k < 0 → parseFieldDescriptor (TJxc12de k).2.2.1 = some (tyJxc12de k) := by decide +kernel
abbrev cJxc12de_init_da8c8 : ByteArray := prog_30_method_1_code
def yJxc12de_init_da8c8 : MethodName := ⟨RJxc12de, "<init>", "()V"⟩
def RJx4a65c : String := "java/util/ArrayList"
def TJx4a65c : u_T := fun k => match k with
  | 0 => ("java/util/AbstractList", "modCount", "I", false)
  | 1 => ("java/util/ArrayList", "elementData", "[Ljava/lang/Object;", false)
  | _ => ("java/util/ArrayList", "size", "I", false)
def tyJx4a65c : Nat → FieldType := fun k => match k with
  | 0 => .int
  | 1 => .array (.object "java/lang/Object")
  | _ => .int
abbrev wsJx4a65c0 : List Cond := u_ws RJx4a65c TJx4a65c 3
theorem nmJx4a65c : ∀ a, a < 3 → ∀ b, b < 3 → a ≠ b → (TJx4a65c a).2.1 ≠ (TJx4a65c b).2.1 := by decide +kernel
theorem tyJx4a65c_ok : ∀ k, k < 3 → parseFieldDescriptor (TJx4a65c k).2.2.1 = some (tyJx4a65c k) := by decide +kernel
abbrev cJx4a65c_init_da8c8 : ByteArray := prog_31_method_2_code
def yJx4a65c_init_da8c8 : MethodName := ⟨RJx4a65c, "<init>", "()V"⟩
abbrev cJx4a65c_grow_92f84 : ByteArray := prog_31_method_6_code
def yJx4a65c_grow_92f84 : MethodName := ⟨RJx4a65c, "grow", "(I)[Ljava/lang/Object;"⟩
abbrev cJx4a65c_grow_d5877 : ByteArray := prog_31_method_7_code
def yJx4a65c_grow_d5877 : MethodName := ⟨RJx4a65c, "grow", "()[Ljava/lang/Object;"⟩
abbrev cJx4a65c_size_8abf5 : ByteArray := prog_31_method_8_code
def yJx4a65c_size_8abf5 : MethodName := ⟨RJx4a65c, "size", "()I"⟩
abbrev cJx4a65c_elementData_915e3 : ByteArray := prog_31_method_18_code
def yJx4a65c_elementData_915e3 : MethodName := ⟨RJx4a65c, "elementData", "(I)Ljava/lang/Object;"⟩
abbrev cJx4a65c_get_915e3 : ByteArray := prog_31_method_20_code
def yJx4a65c_get_915e3 : MethodName := ⟨RJx4a65c, "get", "(I)Ljava/lang/Object;"⟩
abbrev cJx4a65c_add_72be8 : ByteArray := prog_31_method_24_code
def yJx4a65c_add_72be8 : MethodName := ⟨RJx4a65c, "add", "(Ljava/lang/Object;[Ljava/lang/Object;I)V"⟩
abbrev cJx4a65c_add_9ea2d : ByteArray := prog_31_method_25_code
def yJx4a65c_add_9ea2d : MethodName := ⟨RJx4a65c, "add", "(Ljava/lang/Object;)Z"⟩
def RJ7 : String := "java/util/Arrays"
def TJ7 : u_T := fun k => match k with
  | _ => ("", "", "", false)
def tyJ7 : Nat → FieldType := fun k => match k with
  | _ => .int
abbrev wsJ70 : List Cond := u_ws RJ7 TJ7 0
theorem nmJ7 : ∀ a, a < 0 → ∀ b, b < 0 → a ≠ b → (TJ7 a).2.1 ≠ (TJ7 b).2.1 := by decide +kernel
theorem tyJ7_ok : ∀ k, k < 0 → parseFieldDescriptor (TJ7 k).2.2.1 = some (tyJ7 k) := by decide +kernel
abbrev cJ7_copyOf_1904c : ByteArray := prog_32_method_119_code
def yJ7_copyOf_1904c : MethodName := ⟨RJ7, "copyOf", "([Ljava/lang/Object;I)[Ljava/lang/Object;"⟩
abbrev cJ7_copyOf_6403c : ByteArray := prog_32_method_120_code
def yJ7_copyOf_6403c : MethodName := ⟨RJ7, "copyOf", "([Ljava/lang/Object;ILjava/lang/Class;)[Ljava/lang/Object;"⟩
def RJx5ef63 : String := "java/util/Collection"
def TJx5ef63 : u_T := fun k => match k with
  | _ => ("", "", "", false)
def tyJx5ef63 : Nat → FieldType := fun k => match k with
  | _ => .int
abbrev wsJx5ef630 : List Cond := u_ws RJx5ef63 TJx5ef63 0
theorem nmJx5ef63 : ∀ a, a < 0 → ∀ b, b < 0 → a ≠ b → (TJx5ef63 a).2.1 ≠ (TJx5ef63 b).2.1 := by decide +kernel
theorem tyJx5ef63_ok : ∀ k, k < 0 → parseFieldDescriptor (TJx5ef63 k).2.2.1 = some (tyJx5ef63 k) := by decide +kernel
def RJxbd725 : String := "java/util/List"
def TJxbd725 : u_T := fun k => match k with
  | _ => ("", "", "", false)
def tyJxbd725 : Nat → FieldType := fun k => match k with
  | _ => .int
abbrev wsJxbd7250 : List Cond := u_ws RJxbd725 TJxbd725 0
theorem nmJxbd725 : ∀ a, a < 0 → ∀ b, b < 0 → a ≠ b → (TJxbd725 a).2.1 ≠ (TJxbd725 b).2.1 := by decide +kernel
theorem tyJxbd725_ok : ∀ k, k < 0 → parseFieldDescriptor (TJxbd725 k).2.2.1 = some (tyJxbd725 k) := by decide +kernel
def RJ15 : String := "java/util/Objects"
def TJ15 : u_T := fun k => match k with
  | _ => ("", "", "", false)
def tyJ15 : Nat → FieldType := fun k => match k with
  | _ => .int
abbrev wsJ150 : List Cond := u_ws RJ15 TJ15 0
theorem nmJ15 : ∀ a, a < 0 → ∀ b, b < 0 → a ≠ b → (TJ15 a).2.1 ≠ (TJ15 b).2.1 := by decide +kernel
theorem tyJ15_ok : ∀ k, k < 0 → parseFieldDescriptor (TJ15 k).2.2.1 = some (tyJ15 k) := by decide +kernel
abbrev cJ15_checkIndex_7cf53 : ByteArray := prog_35_method_17_code
def yJ15_checkIndex_7cf53 : MethodName := ⟨RJ15, "checkIndex", "(II)I"⟩
def RJxf0a74 : String := "java/util/RandomAccess"
def TJxf0a74 : u_T := fun k => match k with
  | _ => ("", "", "", false)
def tyJxf0a74 : Nat → FieldType := fun k => match k with
  | _ => .int
abbrev wsJxf0a740 : List Cond := u_ws RJxf0a74 TJxf0a74 0
theorem nmJxf0a74 : ∀ a, a < 0 → ∀ b, b < 0 → a ≠ b → (TJxf0a74 a).2.1 ≠ (TJxf0a74 b).2.1 := by decide +kernel
theorem tyJxf0a74_ok : ∀ k, k < 0 → parseFieldDescriptor (TJxf0a74 k).2.2.1 = some (tyJxf0a74 k) := by decide +kernel
def RJxa66e6 : String := "java/util/SequencedCollection"
def TJxa66e6 : u_T := fun k => match k with
  | _ => ("", "", "", false)
def tyJxa66e6 : Nat → FieldType := fun k => match k with
  | _ => .int
abbrev wsJxa66e60 : List Cond := u_ws RJxa66e6 TJxa66e6 0
theorem nmJxa66e6 : ∀ a, a < 0 → ∀ b, b < 0 → a ≠ b → (TJxa66e6 a).2.1 ≠ (TJxa66e6 b).2.1 := by decide +kernel
theorem tyJxa66e6_ok : ∀ k, k < 0 → parseFieldDescriptor (TJxa66e6 k).2.2.1 = some (tyJxa66e6 k) := by decide +kernel
def RJ8 : String := "jdk/internal/util/ArraysSupport"
def TJ8 : u_T := fun k => match k with
  | _ => ("", "", "", false)
def tyJ8 : Nat → FieldType := fun k => match k with
  | _ => .int
abbrev wsJ80 : List Cond := u_ws RJ8 TJ8 0
theorem nmJ8 : ∀ a, a < 0 → ∀ b, b < 0 → a ≠ b → (TJ8 a).2.1 ≠ (TJ8 b).2.1 := by decide +kernel
theorem tyJ8_ok : ∀ k, k < 0 → parseFieldDescriptor (TJ8 k).2.2.1 = some (tyJ8 k) := by decide +kernel
abbrev cJ8_newLength_cabcc : ByteArray := prog_38_method_27_code
def yJ8_newLength_cabcc : MethodName := ⟨RJ8, "newLength", "(III)I"⟩
abbrev cJ8_hugeLength_7cf53 : ByteArray := prog_38_method_28_code
def yJ8_hugeLength_7cf53 : MethodName := ⟨RJ8, "hugeLength", "(II)I"⟩
def RJ3 : String := "jdk/internal/util/Preconditions"
def TJ3 : u_T := fun k => match k with
  | _ => ("", "", "", false)
def tyJ3 : Nat → FieldType := fun k => match k with
  | _ => .int
abbrev wsJ30 : List Cond := u_ws RJ3 TJ3 0
theorem nmJ3 : ∀ a, a < 0 → ∀ b, b < 0 → a ≠ b → (TJ3 a).2.1 ≠ (TJ3 b).2.1 := by decide +kernel
theorem tyJ3_ok : ∀ k, k < 0 → parseFieldDescriptor (TJ3 k).2.2.1 = some (tyJ3 k) := by decide +kernel
abbrev cJ3_checkIndex_8e157 : ByteArray := prog_39_method_11_code
def yJ3_checkIndex_8e157 : MethodName := ⟨RJ3, "checkIndex", "(IILjava/util/function/BiFunction;)I"⟩
def RL : String := "ChuteLoftLaw"
abbrev cL_jumper : ByteArray := method_3_code
def yL_jumper : MethodName := ⟨RL, "jumper", "(LChuteLoft;II[J)I"⟩
abbrev cL_rig : ByteArray := method_4_code
def yL_rig : MethodName := ⟨RL, "rig", "(LChuteLoft;II[J)I"⟩
abbrev cL_lend : ByteArray := method_5_code
def yL_lend : MethodName := ⟨RL, "lend", "(LChuteLoft;II[J)I"⟩
abbrev cL_pack : ByteArray := method_6_code
def yL_pack : MethodName := ⟨RL, "pack", "(LChuteLoft;II[J)I"⟩
abbrev cL_renew : ByteArray := method_7_code
def yL_renew : MethodName := ⟨RL, "renew", "(LChuteLoft;I[J)I"⟩
abbrev cL_pass : ByteArray := method_8_code
def yL_pass : MethodName := ⟨RL, "pass", "(LChuteLoft;I[J)I"⟩
abbrev cL_wind : ByteArray := method_9_code
def yL_wind : MethodName := ⟨RL, "wind", "(LChuteLoft;III[J)I"⟩
abbrev cL_board : ByteArray := method_10_code
def yL_board : MethodName := ⟨RL, "board", "(LChuteLoft;III[J)I"⟩
abbrev cL_fly : ByteArray := method_11_code
def yL_fly : MethodName := ⟨RL, "fly", "(LChuteLoft;II[J)I"⟩
abbrev cL_ofJumper : ByteArray := method_12_code
def yL_ofJumper : MethodName := ⟨RL, "ofJumper", "(LChuteLoft;II[J)I"⟩
abbrev cL_loading : ByteArray := method_13_code
def yL_loading : MethodName := ⟨RL, "loading", "(LChuteLoft;I[D)I"⟩
abbrev cL_landed : ByteArray := method_14_code
def yL_landed : MethodName := ⟨RL, "landed", "(LChuteLoft;IZ[D)I"⟩
abbrev cL_refuses : ByteArray := method_15_code
def yL_refuses : MethodName := ⟨RL, "refuses", "(LChuteLoft;I[J)I"⟩
abbrev cL_ofRig : ByteArray := method_16_code
def yL_ofRig : MethodName := ⟨RL, "ofRig", "(LChuteLoft;II[J)I"⟩
abbrev cL_wear : ByteArray := method_17_code
def yL_wear : MethodName := ⟨RL, "wear", "(LChuteLoft;I[D)I"⟩
abbrev cL_ofWind : ByteArray := method_18_code
def yL_ofWind : MethodName := ⟨RL, "ofWind", "(LChuteLoft;IZ[J)I"⟩
abbrev cL_many : ByteArray := method_19_code
def yL_many : MethodName := ⟨RL, "many", "(LChuteLoft;I[J)I"⟩
abbrev cL_order : ByteArray := method_20_code
def yL_order : MethodName := ⟨RL, "order", "(LChuteLoft;I[J)I"⟩
abbrev cL_wouldLand : ByteArray := method_21_code
def yL_wouldLand : MethodName := ⟨RL, "wouldLand", "(LChuteLoft;IIIIZ[D)I"⟩
abbrev cL_takes : ByteArray := method_22_code
def yL_takes : MethodName := ⟨RL, "takes", "(LChuteLoft;III[J)I"⟩
abbrev cL_spot : ByteArray := method_23_code
def yL_spot : MethodName := ⟨RL, "spot", "(LChuteLoft;I[J)I"⟩
abbrev cL_wouldMeet : ByteArray := method_24_code
def yL_wouldMeet : MethodName := ⟨RL, "wouldMeet", "(LChuteLoft;II[J)I"⟩
abbrev cL_best : ByteArray := method_25_code
def yL_best : MethodName := ⟨RL, "best", "(LChuteLoft;I[J)I"⟩
abbrev cL_law : ByteArray := code
def yL_law : MethodName := ⟨RL, "law", "([I)Z"⟩
abbrev vwCl : List vw_C := [(RJx4a65c, TJx4a65c, 3), (RX0, TX0, 2), (RX1, TX1, 11), (RX2, TX2, 12), (RX3, TX3, 5), (RX4, TX4, 2), (RX5, TX5, 18), (RX6, TX6, 13), (RX7, TX7, 12), (RX8, TX8, 5), (RX9, TX9, 14)]
end
section
theorem dX0_init_0 : decode cX0_init 0 = .ok (.aload_n 0, 1) := by decide +kernel
theorem dX0_init_1 : decode cX0_init 1 = .ok (.invokespecial 3, 3) := by decide +kernel
theorem dX0_init_4 : decode cX0_init 4 = .ok (.aload_n 0, 1) := by decide +kernel
theorem dX0_init_5 : decode cX0_init 5 = .ok (.bipush 6, 2) := by decide +kernel
theorem dX0_init_7 : decode cX0_init 7 = .ok (.anewarray 9, 3) := by decide +kernel
theorem dX0_init_10 : decode cX0_init 10 = .ok (.putfield 11, 3) := by decide +kernel
theorem dX0_init_13 : decode cX0_init 13 = .ok (.aload_n 0, 1) := by decide +kernel
theorem dX0_init_14 : decode cX0_init 14 = .ok (.iconst 0, 1) := by decide +kernel
theorem dX0_init_15 : decode cX0_init 15 = .ok (.putfield 17, 3) := by decide +kernel
theorem dX0_init_18 : decode cX0_init 18 = .ok (.iconst 0, 1) := by decide +kernel
theorem dX0_init_19 : decode cX0_init 19 = .ok (.istore_n 1, 1) := by decide +kernel
theorem dX0_init_20 : decode cX0_init 20 = .ok (.iload_n 1, 1) := by decide +kernel
theorem dX0_init_21 : decode cX0_init 21 = .ok (.bipush 6, 2) := by decide +kernel
theorem dX0_init_23 : decode cX0_init 23 = .ok (.if_icmp .ge 22, 3) := by decide +kernel
theorem dX0_init_26 : decode cX0_init 26 = .ok (.aload_n 0, 1) := by decide +kernel
theorem dX0_init_27 : decode cX0_init 27 = .ok (.getfield 11, 3) := by decide +kernel
theorem dX0_init_30 : decode cX0_init 30 = .ok (.iload_n 1, 1) := by decide +kernel
theorem dX0_init_31 : decode cX0_init 31 = .ok (.new 9, 3) := by decide +kernel
theorem dX0_init_34 : decode cX0_init 34 = .ok (.dup, 1) := by decide +kernel
theorem dX0_init_35 : decode cX0_init 35 = .ok (.invokespecial 21, 3) := by decide +kernel
theorem dX0_init_38 : decode cX0_init 38 = .ok (.aastore, 1) := by decide +kernel
theorem dX0_init_39 : decode cX0_init 39 = .ok (.iinc 1 1, 3) := by decide +kernel
theorem dX0_init_42 : decode cX0_init 42 = .ok (.goto (-22), 3) := by decide +kernel
theorem dX0_init_45 : decode cX0_init 45 = .ok (.return_, 1) := by decide +kernel
theorem dX0_jumpAt_0 : decode cX0_jumpAt 0 = .ok (.aload_n 0, 1) := by decide +kernel
theorem dX0_jumpAt_1 : decode cX0_jumpAt 1 = .ok (.getfield 11, 3) := by decide +kernel
theorem dX0_jumpAt_4 : decode cX0_jumpAt 4 = .ok (.iload_n 1, 1) := by decide +kernel
theorem dX0_jumpAt_5 : decode cX0_jumpAt 5 = .ok (.ifCond .lt 13, 3) := by decide +kernel
theorem dX0_jumpAt_8 : decode cX0_jumpAt 8 = .ok (.iload_n 1, 1) := by decide +kernel
theorem dX0_jumpAt_9 : decode cX0_jumpAt 9 = .ok (.bipush 6, 2) := by decide +kernel
theorem dX0_jumpAt_11 : decode cX0_jumpAt 11 = .ok (.if_icmp .ge 7, 3) := by decide +kernel
theorem dX0_jumpAt_14 : decode cX0_jumpAt 14 = .ok (.iload_n 1, 1) := by decide +kernel
theorem dX0_jumpAt_15 : decode cX0_jumpAt 15 = .ok (.goto 4, 3) := by decide +kernel
theorem dX0_jumpAt_18 : decode cX0_jumpAt 18 = .ok (.iconst 0, 1) := by decide +kernel
theorem dX0_jumpAt_19 : decode cX0_jumpAt 19 = .ok (.aaload, 1) := by decide +kernel
theorem dX0_jumpAt_20 : decode cX0_jumpAt 20 = .ok (.areturn, 1) := by decide +kernel
theorem dX0_leave_0 : decode cX0_leave 0 = .ok (.iconst 0, 1) := by decide +kernel
theorem dX0_leave_1 : decode cX0_leave 1 = .ok (.istore 4, 2) := by decide +kernel
theorem dX0_leave_3 : decode cX0_leave 3 = .ok (.iload 4, 2) := by decide +kernel
theorem dX0_leave_5 : decode cX0_leave 5 = .ok (.aload_n 0, 1) := by decide +kernel
theorem dX0_leave_6 : decode cX0_leave 6 = .ok (.getfield 17, 3) := by decide +kernel
theorem dX0_leave_9 : decode cX0_leave 9 = .ok (.if_icmp .ge 44, 3) := by decide +kernel
theorem dX0_leave_12 : decode cX0_leave 12 = .ok (.iload 4, 2) := by decide +kernel
theorem dX0_leave_14 : decode cX0_leave 14 = .ok (.iload_n 2, 1) := by decide +kernel
theorem dX0_leave_15 : decode cX0_leave 15 = .ok (.imul, 1) := by decide +kernel
theorem dX0_leave_16 : decode cX0_leave 16 = .ok (.istore 5, 2) := by decide +kernel
theorem dX0_leave_18 : decode cX0_leave 18 = .ok (.aload_n 0, 1) := by decide +kernel
theorem dX0_leave_19 : decode cX0_leave 19 = .ok (.iload 4, 2) := by decide +kernel
theorem dX0_leave_21 : decode cX0_leave 21 = .ok (.invokevirtual 22, 3) := by decide +kernel
theorem dX0_leave_24 : decode cX0_leave 24 = .ok (.iload_n 1, 1) := by decide +kernel
theorem dX0_leave_25 : decode cX0_leave 25 = .ok (.i2d, 1) := by decide +kernel
theorem dX0_leave_26 : decode cX0_leave 26 = .ok (.iload 5, 2) := by decide +kernel
theorem dX0_leave_28 : decode cX0_leave 28 = .ok (.i2d, 1) := by decide +kernel
theorem dX0_leave_29 : decode cX0_leave 29 = .ok (.ldc2_w 26, 3) := by decide +kernel
theorem dX0_leave_32 : decode cX0_leave 32 = .ok (.aload_n 3, 1) := by decide +kernel
theorem dX0_leave_33 : decode cX0_leave 33 = .ok (.bipush 9, 2) := by decide +kernel
theorem dX0_leave_35 : decode cX0_leave 35 = .ok (.invokevirtual 28, 3) := by decide +kernel
theorem dX0_leave_38 : decode cX0_leave 38 = .ok (.i2d, 1) := by decide +kernel
theorem dX0_leave_39 : decode cX0_leave 39 = .ok (.dsub, 1) := by decide +kernel
theorem dX0_leave_40 : decode cX0_leave 40 = .ok (.dmul, 1) := by decide +kernel
theorem dX0_leave_41 : decode cX0_leave 41 = .ok (.dadd, 1) := by decide +kernel
theorem dX0_leave_42 : decode cX0_leave 42 = .ok (.iload 5, 2) := by decide +kernel
theorem dX0_leave_44 : decode cX0_leave 44 = .ok (.invokevirtual 34, 3) := by decide +kernel
theorem dX0_leave_47 : decode cX0_leave 47 = .ok (.iinc 4 1, 3) := by decide +kernel
theorem dX0_leave_50 : decode cX0_leave 50 = .ok (.goto (-47), 3) := by decide +kernel
theorem dX0_leave_53 : decode cX0_leave 53 = .ok (.return_, 1) := by decide +kernel
theorem dX0_run_0 : decode cX0_run 0 = .ok (.iconst 0, 1) := by decide +kernel
theorem dX0_run_1 : decode cX0_run 1 = .ok (.istore_n 2, 1) := by decide +kernel
theorem dX0_run_2 : decode cX0_run 2 = .ok (.iconst 0, 1) := by decide +kernel
theorem dX0_run_3 : decode cX0_run 3 = .ok (.istore_n 3, 1) := by decide +kernel
theorem dX0_run_4 : decode cX0_run 4 = .ok (.iconst 0, 1) := by decide +kernel
theorem dX0_run_5 : decode cX0_run 5 = .ok (.istore 4, 2) := by decide +kernel
theorem dX0_run_7 : decode cX0_run 7 = .ok (.iload 4, 2) := by decide +kernel
theorem dX0_run_9 : decode cX0_run 9 = .ok (.sipush 1000, 3) := by decide +kernel
theorem dX0_run_12 : decode cX0_run 12 = .ok (.if_icmp .ge 28, 3) := by decide +kernel
theorem dX0_run_15 : decode cX0_run 15 = .ok (.iload_n 3, 1) := by decide +kernel
theorem dX0_run_16 : decode cX0_run 16 = .ok (.ifCond .ne 24, 3) := by decide +kernel
theorem dX0_run_19 : decode cX0_run 19 = .ok (.aload_n 0, 1) := by decide +kernel
theorem dX0_run_20 : decode cX0_run 20 = .ok (.iload 4, 2) := by decide +kernel
theorem dX0_run_22 : decode cX0_run 22 = .ok (.aload_n 1, 1) := by decide +kernel
theorem dX0_run_23 : decode cX0_run 23 = .ok (.invokevirtual 38, 3) := by decide +kernel
theorem dX0_run_26 : decode cX0_run 26 = .ok (.istore_n 3, 1) := by decide +kernel
theorem dX0_run_27 : decode cX0_run 27 = .ok (.iload_n 2, 1) := by decide +kernel
theorem dX0_run_28 : decode cX0_run 28 = .ok (.aload_n 0, 1) := by decide +kernel
theorem dX0_run_29 : decode cX0_run 29 = .ok (.invokevirtual 42, 3) := by decide +kernel
theorem dX0_run_32 : decode cX0_run 32 = .ok (.iadd, 1) := by decide +kernel
theorem dX0_run_33 : decode cX0_run 33 = .ok (.istore_n 2, 1) := by decide +kernel
theorem dX0_run_34 : decode cX0_run 34 = .ok (.iinc 4 1, 3) := by decide +kernel
theorem dX0_run_37 : decode cX0_run 37 = .ok (.goto (-30), 3) := by decide +kernel
theorem dX0_run_40 : decode cX0_run 40 = .ok (.iload_n 2, 1) := by decide +kernel
theorem dX0_run_41 : decode cX0_run 41 = .ok (.ireturn, 1) := by decide +kernel
theorem dX0_goOn_0 : decode cX0_goOn 0 = .ok (.iconst 1, 1) := by decide +kernel
theorem dX0_goOn_1 : decode cX0_goOn 1 = .ok (.istore_n 3, 1) := by decide +kernel
theorem dX0_goOn_2 : decode cX0_goOn 2 = .ok (.iconst 0, 1) := by decide +kernel
theorem dX0_goOn_3 : decode cX0_goOn 3 = .ok (.istore 4, 2) := by decide +kernel
theorem dX0_goOn_5 : decode cX0_goOn 5 = .ok (.iload 4, 2) := by decide +kernel
theorem dX0_goOn_7 : decode cX0_goOn 7 = .ok (.aload_n 0, 1) := by decide +kernel
theorem dX0_goOn_8 : decode cX0_goOn 8 = .ok (.getfield 17, 3) := by decide +kernel
theorem dX0_goOn_11 : decode cX0_goOn 11 = .ok (.if_icmp .ge 58, 3) := by decide +kernel
theorem dX0_goOn_14 : decode cX0_goOn 14 = .ok (.aload_n 0, 1) := by decide +kernel
theorem dX0_goOn_15 : decode cX0_goOn 15 = .ok (.iload 4, 2) := by decide +kernel
theorem dX0_goOn_17 : decode cX0_goOn 17 = .ok (.invokevirtual 22, 3) := by decide +kernel
theorem dX0_goOn_20 : decode cX0_goOn 20 = .ok (.astore 5, 2) := by decide +kernel
theorem dX0_goOn_22 : decode cX0_goOn 22 = .ok (.iload_n 1, 1) := by decide +kernel
theorem dX0_goOn_23 : decode cX0_goOn 23 = .ok (.aload 5, 2) := by decide +kernel
theorem dX0_goOn_25 : decode cX0_goOn 25 = .ok (.getfield 46, 3) := by decide +kernel
theorem dX0_goOn_28 : decode cX0_goOn 28 = .ok (.if_icmp .lt 17, 3) := by decide +kernel
theorem dX0_goOn_31 : decode cX0_goOn 31 = .ok (.aload 5, 2) := by decide +kernel
theorem dX0_goOn_33 : decode cX0_goOn 33 = .ok (.invokevirtual 49, 3) := by decide +kernel
theorem dX0_goOn_36 : decode cX0_goOn 36 = .ok (.ifCond .ne 9, 3) := by decide +kernel
theorem dX0_goOn_39 : decode cX0_goOn 39 = .ok (.aload 5, 2) := by decide +kernel
theorem dX0_goOn_41 : decode cX0_goOn 41 = .ok (.aload_n 2, 1) := by decide +kernel
theorem dX0_goOn_42 : decode cX0_goOn 42 = .ok (.invokevirtual 53, 3) := by decide +kernel
theorem dX0_goOn_45 : decode cX0_goOn 45 = .ok (.iload_n 3, 1) := by decide +kernel
theorem dX0_goOn_46 : decode cX0_goOn 46 = .ok (.ifCond .eq 15, 3) := by decide +kernel
theorem dX0_goOn_49 : decode cX0_goOn 49 = .ok (.aload 5, 2) := by decide +kernel
theorem dX0_goOn_51 : decode cX0_goOn 51 = .ok (.invokevirtual 49, 3) := by decide +kernel
theorem dX0_goOn_54 : decode cX0_goOn 54 = .ok (.ifCond .eq 7, 3) := by decide +kernel
theorem dX0_goOn_57 : decode cX0_goOn 57 = .ok (.iconst 1, 1) := by decide +kernel
theorem dX0_goOn_58 : decode cX0_goOn 58 = .ok (.goto 4, 3) := by decide +kernel
theorem dX0_goOn_61 : decode cX0_goOn 61 = .ok (.iconst 0, 1) := by decide +kernel
theorem dX0_goOn_62 : decode cX0_goOn 62 = .ok (.istore_n 3, 1) := by decide +kernel
theorem dX0_goOn_63 : decode cX0_goOn 63 = .ok (.iinc 4 1, 3) := by decide +kernel
theorem dX0_goOn_66 : decode cX0_goOn 66 = .ok (.goto (-61), 3) := by decide +kernel
theorem dX0_goOn_69 : decode cX0_goOn 69 = .ok (.iload_n 3, 1) := by decide +kernel
theorem dX0_goOn_70 : decode cX0_goOn 70 = .ok (.ireturn, 1) := by decide +kernel
theorem dX0_countNewPairs_0 : decode cX0_countNewPairs 0 = .ok (.iconst 0, 1) := by decide +kernel
theorem dX0_countNewPairs_1 : decode cX0_countNewPairs 1 = .ok (.istore_n 1, 1) := by decide +kernel
theorem dX0_countNewPairs_2 : decode cX0_countNewPairs 2 = .ok (.iconst 0, 1) := by decide +kernel
theorem dX0_countNewPairs_3 : decode cX0_countNewPairs 3 = .ok (.istore_n 2, 1) := by decide +kernel
theorem dX0_countNewPairs_4 : decode cX0_countNewPairs 4 = .ok (.iload_n 2, 1) := by decide +kernel
theorem dX0_countNewPairs_5 : decode cX0_countNewPairs 5 = .ok (.aload_n 0, 1) := by decide +kernel
theorem dX0_countNewPairs_6 : decode cX0_countNewPairs 6 = .ok (.getfield 17, 3) := by decide +kernel
theorem dX0_countNewPairs_9 : decode cX0_countNewPairs 9 = .ok (.if_icmp .ge 78, 3) := by decide +kernel
theorem dX0_countNewPairs_12 : decode cX0_countNewPairs 12 = .ok (.aload_n 0, 1) := by decide +kernel
theorem dX0_countNewPairs_13 : decode cX0_countNewPairs 13 = .ok (.iload_n 2, 1) := by decide +kernel
theorem dX0_countNewPairs_14 : decode cX0_countNewPairs 14 = .ok (.invokevirtual 22, 3) := by decide +kernel
theorem dX0_countNewPairs_17 : decode cX0_countNewPairs 17 = .ok (.astore_n 3, 1) := by decide +kernel
theorem dX0_countNewPairs_18 : decode cX0_countNewPairs 18 = .ok (.iload_n 2, 1) := by decide +kernel
theorem dX0_countNewPairs_19 : decode cX0_countNewPairs 19 = .ok (.iconst 1, 1) := by decide +kernel
theorem dX0_countNewPairs_20 : decode cX0_countNewPairs 20 = .ok (.iadd, 1) := by decide +kernel
theorem dX0_countNewPairs_21 : decode cX0_countNewPairs 21 = .ok (.istore 4, 2) := by decide +kernel
theorem dX0_countNewPairs_23 : decode cX0_countNewPairs 23 = .ok (.iload 4, 2) := by decide +kernel
theorem dX0_countNewPairs_25 : decode cX0_countNewPairs 25 = .ok (.aload_n 0, 1) := by decide +kernel
theorem dX0_countNewPairs_26 : decode cX0_countNewPairs 26 = .ok (.getfield 17, 3) := by decide +kernel
theorem dX0_countNewPairs_29 : decode cX0_countNewPairs 29 = .ok (.if_icmp .ge 52, 3) := by decide +kernel
theorem dX0_countNewPairs_32 : decode cX0_countNewPairs 32 = .ok (.iconst 1, 1) := by decide +kernel
theorem dX0_countNewPairs_33 : decode cX0_countNewPairs 33 = .ok (.iload 4, 2) := by decide +kernel
theorem dX0_countNewPairs_35 : decode cX0_countNewPairs 35 = .ok (.ishl, 1) := by decide +kernel
theorem dX0_countNewPairs_36 : decode cX0_countNewPairs 36 = .ok (.istore 5, 2) := by decide +kernel
theorem dX0_countNewPairs_38 : decode cX0_countNewPairs 38 = .ok (.aload_n 3, 1) := by decide +kernel
theorem dX0_countNewPairs_39 : decode cX0_countNewPairs 39 = .ok (.getfield 56, 3) := by decide +kernel
theorem dX0_countNewPairs_42 : decode cX0_countNewPairs 42 = .ok (.iload 5, 2) := by decide +kernel
theorem dX0_countNewPairs_44 : decode cX0_countNewPairs 44 = .ok (.iand, 1) := by decide +kernel
theorem dX0_countNewPairs_45 : decode cX0_countNewPairs 45 = .ok (.ifCond .ne 30, 3) := by decide +kernel
theorem dX0_countNewPairs_48 : decode cX0_countNewPairs 48 = .ok (.aload_n 3, 1) := by decide +kernel
theorem dX0_countNewPairs_49 : decode cX0_countNewPairs 49 = .ok (.aload_n 0, 1) := by decide +kernel
theorem dX0_countNewPairs_50 : decode cX0_countNewPairs 50 = .ok (.iload 4, 2) := by decide +kernel
theorem dX0_countNewPairs_52 : decode cX0_countNewPairs 52 = .ok (.invokevirtual 22, 3) := by decide +kernel
theorem dX0_countNewPairs_55 : decode cX0_countNewPairs 55 = .ok (.invokevirtual 59, 3) := by decide +kernel
theorem dX0_countNewPairs_58 : decode cX0_countNewPairs 58 = .ok (.ifCond .eq 17, 3) := by decide +kernel
theorem dX0_countNewPairs_61 : decode cX0_countNewPairs 61 = .ok (.aload_n 3, 1) := by decide +kernel
theorem dX0_countNewPairs_62 : decode cX0_countNewPairs 62 = .ok (.dup, 1) := by decide +kernel
theorem dX0_countNewPairs_63 : decode cX0_countNewPairs 63 = .ok (.getfield 56, 3) := by decide +kernel
theorem dX0_countNewPairs_66 : decode cX0_countNewPairs 66 = .ok (.iload 5, 2) := by decide +kernel
theorem dX0_countNewPairs_68 : decode cX0_countNewPairs 68 = .ok (.ior, 1) := by decide +kernel
theorem dX0_countNewPairs_69 : decode cX0_countNewPairs 69 = .ok (.putfield 56, 3) := by decide +kernel
theorem dX0_countNewPairs_72 : decode cX0_countNewPairs 72 = .ok (.iinc 1 1, 3) := by decide +kernel
theorem dX0_countNewPairs_75 : decode cX0_countNewPairs 75 = .ok (.iinc 4 1, 3) := by decide +kernel
theorem dX0_countNewPairs_78 : decode cX0_countNewPairs 78 = .ok (.goto (-55), 3) := by decide +kernel
theorem dX0_countNewPairs_81 : decode cX0_countNewPairs 81 = .ok (.iinc 2 1, 3) := by decide +kernel
theorem dX0_countNewPairs_84 : decode cX0_countNewPairs 84 = .ok (.goto (-80), 3) := by decide +kernel
theorem dX0_countNewPairs_87 : decode cX0_countNewPairs 87 = .ok (.iload_n 1, 1) := by decide +kernel
theorem dX0_countNewPairs_88 : decode cX0_countNewPairs 88 = .ok (.ireturn, 1) := by decide +kernel
theorem dX1_init_0 : decode cX1_init 0 = .ok (.aload_n 0, 1) := by decide +kernel
theorem dX1_init_1 : decode cX1_init 1 = .ok (.invokespecial 3, 3) := by decide +kernel
theorem dX1_init_4 : decode cX1_init 4 = .ok (.aload_n 0, 1) := by decide +kernel
theorem dX1_init_5 : decode cX1_init 5 = .ok (.bipush 6, 2) := by decide +kernel
theorem dX1_init_7 : decode cX1_init 7 = .ok (.putfield 9, 3) := by decide +kernel
theorem dX1_init_10 : decode cX1_init 10 = .ok (.aload_n 0, 1) := by decide +kernel
theorem dX1_init_11 : decode cX1_init 11 = .ok (.iconst 1, 1) := by decide +kernel
theorem dX1_init_12 : decode cX1_init 12 = .ok (.putfield 15, 3) := by decide +kernel
theorem dX1_init_15 : decode cX1_init 15 = .ok (.aload_n 0, 1) := by decide +kernel
theorem dX1_init_16 : decode cX1_init 16 = .ok (.iconst 1, 1) := by decide +kernel
theorem dX1_init_17 : decode cX1_init 17 = .ok (.putfield 18, 3) := by decide +kernel
theorem dX1_init_20 : decode cX1_init 20 = .ok (.aload_n 0, 1) := by decide +kernel
theorem dX1_init_21 : decode cX1_init 21 = .ok (.dconst 0, 1) := by decide +kernel
theorem dX1_init_22 : decode cX1_init 22 = .ok (.putfield 21, 3) := by decide +kernel
theorem dX1_init_25 : decode cX1_init 25 = .ok (.aload_n 0, 1) := by decide +kernel
theorem dX1_init_26 : decode cX1_init 26 = .ok (.iconst 0, 1) := by decide +kernel
theorem dX1_init_27 : decode cX1_init 27 = .ok (.putfield 25, 3) := by decide +kernel
theorem dX1_init_30 : decode cX1_init 30 = .ok (.aload_n 0, 1) := by decide +kernel
theorem dX1_init_31 : decode cX1_init 31 = .ok (.iconst 0, 1) := by decide +kernel
theorem dX1_init_32 : decode cX1_init 32 = .ok (.putfield 29, 3) := by decide +kernel
theorem dX1_init_35 : decode cX1_init 35 = .ok (.aload_n 0, 1) := by decide +kernel
theorem dX1_init_36 : decode cX1_init 36 = .ok (.bipush 9, 2) := by decide +kernel
theorem dX1_init_38 : decode cX1_init 38 = .ok (.putfield 32, 3) := by decide +kernel
theorem dX1_init_41 : decode cX1_init 41 = .ok (.aload_n 0, 1) := by decide +kernel
theorem dX1_init_42 : decode cX1_init 42 = .ok (.iconst 0, 1) := by decide +kernel
theorem dX1_init_43 : decode cX1_init 43 = .ok (.putfield 35, 3) := by decide +kernel
theorem dX1_init_46 : decode cX1_init 46 = .ok (.aload_n 0, 1) := by decide +kernel
theorem dX1_init_47 : decode cX1_init 47 = .ok (.dconst 0, 1) := by decide +kernel
theorem dX1_init_48 : decode cX1_init 48 = .ok (.putfield 38, 3) := by decide +kernel
theorem dX1_init_51 : decode cX1_init 51 = .ok (.aload_n 0, 1) := by decide +kernel
theorem dX1_init_52 : decode cX1_init 52 = .ok (.dconst 0, 1) := by decide +kernel
theorem dX1_init_53 : decode cX1_init 53 = .ok (.putfield 41, 3) := by decide +kernel
theorem dX1_init_56 : decode cX1_init 56 = .ok (.aload_n 0, 1) := by decide +kernel
theorem dX1_init_57 : decode cX1_init 57 = .ok (.iconst 0, 1) := by decide +kernel
theorem dX1_init_58 : decode cX1_init 58 = .ok (.putfield 44, 3) := by decide +kernel
theorem dX1_init_61 : decode cX1_init 61 = .ok (.return_, 1) := by decide +kernel
theorem dX1_plan_0 : decode cX1_plan 0 = .ok (.aload_n 0, 1) := by decide +kernel
theorem dX1_plan_1 : decode cX1_plan 1 = .ok (.iload_n 3, 1) := by decide +kernel
theorem dX1_plan_2 : decode cX1_plan 2 = .ok (.putfield 9, 3) := by decide +kernel
theorem dX1_plan_5 : decode cX1_plan 5 = .ok (.aload_n 0, 1) := by decide +kernel
theorem dX1_plan_6 : decode cX1_plan 6 = .ok (.iload_n 2, 1) := by decide +kernel
theorem dX1_plan_7 : decode cX1_plan 7 = .ok (.ifCond .ne 7, 3) := by decide +kernel
theorem dX1_plan_10 : decode cX1_plan 10 = .ok (.iconst 2, 1) := by decide +kernel
theorem dX1_plan_11 : decode cX1_plan 11 = .ok (.goto 4, 3) := by decide +kernel
theorem dX1_plan_14 : decode cX1_plan 14 = .ok (.iconst 1, 1) := by decide +kernel
theorem dX1_plan_15 : decode cX1_plan 15 = .ok (.putfield 15, 3) := by decide +kernel
theorem dX1_plan_18 : decode cX1_plan 18 = .ok (.aload_n 0, 1) := by decide +kernel
theorem dX1_plan_19 : decode cX1_plan 19 = .ok (.fload 4, 2) := by decide +kernel
theorem dX1_plan_21 : decode cX1_plan 21 = .ok (.fconst 0, 1) := by decide +kernel
theorem dX1_plan_22 : decode cX1_plan 22 = .ok (.fcmp .l, 1) := by decide +kernel
theorem dX1_plan_23 : decode cX1_plan 23 = .ok (.ifCond .le 14, 3) := by decide +kernel
theorem dX1_plan_26 : decode cX1_plan 26 = .ok (.iconst 1, 1) := by decide +kernel
theorem dX1_plan_27 : decode cX1_plan 27 = .ok (.ldc 47, 2) := by decide +kernel
theorem dX1_plan_29 : decode cX1_plan 29 = .ok (.fload 4, 2) := by decide +kernel
theorem dX1_plan_31 : decode cX1_plan 31 = .ok (.fdiv, 1) := by decide +kernel
theorem dX1_plan_32 : decode cX1_plan 32 = .ok (.f2i, 1) := by decide +kernel
theorem dX1_plan_33 : decode cX1_plan 33 = .ok (.iadd, 1) := by decide +kernel
theorem dX1_plan_34 : decode cX1_plan 34 = .ok (.goto 4, 3) := by decide +kernel
theorem dX1_plan_37 : decode cX1_plan 37 = .ok (.iconst 1, 1) := by decide +kernel
theorem dX1_plan_38 : decode cX1_plan 38 = .ok (.putfield 18, 3) := by decide +kernel
theorem dX1_plan_41 : decode cX1_plan 41 = .ok (.ldc2_w 48, 3) := by decide +kernel
theorem dX1_plan_44 : decode cX1_plan 44 = .ok (.fload 4, 2) := by decide +kernel
theorem dX1_plan_46 : decode cX1_plan 46 = .ok (.f2d, 1) := by decide +kernel
theorem dX1_plan_47 : decode cX1_plan 47 = .ok (.dadd, 1) := by decide +kernel
theorem dX1_plan_48 : decode cX1_plan 48 = .ok (.dstore 5, 2) := by decide +kernel
theorem dX1_plan_50 : decode cX1_plan 50 = .ok (.aload_n 0, 1) := by decide +kernel
theorem dX1_plan_51 : decode cX1_plan 51 = .ok (.iload_n 1, 1) := by decide +kernel
theorem dX1_plan_52 : decode cX1_plan 52 = .ok (.ifCond .ne 12, 3) := by decide +kernel
theorem dX1_plan_55 : decode cX1_plan 55 = .ok (.dload 5, 2) := by decide +kernel
theorem dX1_plan_57 : decode cX1_plan 57 = .ok (.ldc2_w 50, 3) := by decide +kernel
theorem dX1_plan_60 : decode cX1_plan 60 = .ok (.ddiv, 1) := by decide +kernel
theorem dX1_plan_61 : decode cX1_plan 61 = .ok (.goto 5, 3) := by decide +kernel
theorem dX1_plan_64 : decode cX1_plan 64 = .ok (.dload 5, 2) := by decide +kernel
theorem dX1_plan_66 : decode cX1_plan 66 = .ok (.putfield 21, 3) := by decide +kernel
theorem dX1_plan_69 : decode cX1_plan 69 = .ok (.aload_n 0, 1) := by decide +kernel
theorem dX1_plan_70 : decode cX1_plan 70 = .ok (.iconst 0, 1) := by decide +kernel
theorem dX1_plan_71 : decode cX1_plan 71 = .ok (.putfield 25, 3) := by decide +kernel
theorem dX1_plan_74 : decode cX1_plan 74 = .ok (.return_, 1) := by decide +kernel
theorem dX1_planReserve_0 : decode cX1_planReserve 0 = .ok (.aload_n 0, 1) := by decide +kernel
theorem dX1_planReserve_1 : decode cX1_planReserve 1 = .ok (.dup, 1) := by decide +kernel
theorem dX1_planReserve_2 : decode cX1_planReserve 2 = .ok (.getfield 9, 3) := by decide +kernel
theorem dX1_planReserve_5 : decode cX1_planReserve 5 = .ok (.iconst 1, 1) := by decide +kernel
theorem dX1_planReserve_6 : decode cX1_planReserve 6 = .ok (.isub, 1) := by decide +kernel
theorem dX1_planReserve_7 : decode cX1_planReserve 7 = .ok (.putfield 9, 3) := by decide +kernel
theorem dX1_planReserve_10 : decode cX1_planReserve 10 = .ok (.aload_n 0, 1) := by decide +kernel
theorem dX1_planReserve_11 : decode cX1_planReserve 11 = .ok (.iconst 4, 1) := by decide +kernel
theorem dX1_planReserve_12 : decode cX1_planReserve 12 = .ok (.putfield 18, 3) := by decide +kernel
theorem dX1_planReserve_15 : decode cX1_planReserve 15 = .ok (.aload_n 0, 1) := by decide +kernel
theorem dX1_planReserve_16 : decode cX1_planReserve 16 = .ok (.ldc2_w 52, 3) := by decide +kernel
theorem dX1_planReserve_19 : decode cX1_planReserve 19 = .ok (.putfield 21, 3) := by decide +kernel
theorem dX1_planReserve_22 : decode cX1_planReserve 22 = .ok (.aload_n 0, 1) := by decide +kernel
theorem dX1_planReserve_23 : decode cX1_planReserve 23 = .ok (.iconst 1, 1) := by decide +kernel
theorem dX1_planReserve_24 : decode cX1_planReserve 24 = .ok (.putfield 25, 3) := by decide +kernel
theorem dX1_planReserve_27 : decode cX1_planReserve 27 = .ok (.return_, 1) := by decide +kernel
theorem dX1_leave_0 : decode cX1_leave 0 = .ok (.aload_n 0, 1) := by decide +kernel
theorem dX1_leave_1 : decode cX1_leave 1 = .ok (.iload_n 3, 1) := by decide +kernel
theorem dX1_leave_2 : decode cX1_leave 2 = .ok (.putfield 29, 3) := by decide +kernel
theorem dX1_leave_5 : decode cX1_leave 5 = .ok (.aload_n 0, 1) := by decide +kernel
theorem dX1_leave_6 : decode cX1_leave 6 = .ok (.bipush 9, 2) := by decide +kernel
theorem dX1_leave_8 : decode cX1_leave 8 = .ok (.putfield 32, 3) := by decide +kernel
theorem dX1_leave_11 : decode cX1_leave 11 = .ok (.aload_n 0, 1) := by decide +kernel
theorem dX1_leave_12 : decode cX1_leave 12 = .ok (.iconst 0, 1) := by decide +kernel
theorem dX1_leave_13 : decode cX1_leave 13 = .ok (.putfield 35, 3) := by decide +kernel
theorem dX1_leave_16 : decode cX1_leave 16 = .ok (.aload_n 0, 1) := by decide +kernel
theorem dX1_leave_17 : decode cX1_leave 17 = .ok (.dload_n 1, 1) := by decide +kernel
theorem dX1_leave_18 : decode cX1_leave 18 = .ok (.putfield 38, 3) := by decide +kernel
theorem dX1_leave_21 : decode cX1_leave 21 = .ok (.aload_n 0, 1) := by decide +kernel
theorem dX1_leave_22 : decode cX1_leave 22 = .ok (.dconst 0, 1) := by decide +kernel
theorem dX1_leave_23 : decode cX1_leave 23 = .ok (.putfield 41, 3) := by decide +kernel
theorem dX1_leave_26 : decode cX1_leave 26 = .ok (.aload_n 0, 1) := by decide +kernel
theorem dX1_leave_27 : decode cX1_leave 27 = .ok (.iconst 0, 1) := by decide +kernel
theorem dX1_leave_28 : decode cX1_leave 28 = .ok (.putfield 44, 3) := by decide +kernel
theorem dX1_leave_31 : decode cX1_leave 31 = .ok (.return_, 1) := by decide +kernel
theorem dX1_isDown_0 : decode cX1_isDown 0 = .ok (.aload_n 0, 1) := by decide +kernel
theorem dX1_isDown_1 : decode cX1_isDown 1 = .ok (.getfield 32, 3) := by decide +kernel
theorem dX1_isDown_4 : decode cX1_isDown 4 = .ok (.ifCond .ge 7, 3) := by decide +kernel
theorem dX1_isDown_7 : decode cX1_isDown 7 = .ok (.iconst 1, 1) := by decide +kernel
theorem dX1_isDown_8 : decode cX1_isDown 8 = .ok (.goto 4, 3) := by decide +kernel
theorem dX1_isDown_11 : decode cX1_isDown 11 = .ok (.iconst 0, 1) := by decide +kernel
theorem dX1_isDown_12 : decode cX1_isDown 12 = .ok (.ireturn, 1) := by decide +kernel
theorem dX1_isGliding_0 : decode cX1_isGliding 0 = .ok (.aload_n 0, 1) := by decide +kernel
theorem dX1_isGliding_1 : decode cX1_isGliding 1 = .ok (.getfield 32, 3) := by decide +kernel
theorem dX1_isGliding_4 : decode cX1_isGliding 4 = .ok (.aload_n 0, 1) := by decide +kernel
theorem dX1_isGliding_5 : decode cX1_isGliding 5 = .ok (.getfield 9, 3) := by decide +kernel
theorem dX1_isGliding_8 : decode cX1_isGliding 8 = .ok (.if_icmp .gt 14, 3) := by decide +kernel
theorem dX1_isGliding_11 : decode cX1_isGliding 11 = .ok (.aload_n 0, 1) := by decide +kernel
theorem dX1_isGliding_12 : decode cX1_isGliding 12 = .ok (.getfield 32, 3) := by decide +kernel
theorem dX1_isGliding_15 : decode cX1_isGliding 15 = .ok (.ifCond .lt 7, 3) := by decide +kernel
theorem dX1_isGliding_18 : decode cX1_isGliding 18 = .ok (.iconst 1, 1) := by decide +kernel
theorem dX1_isGliding_19 : decode cX1_isGliding 19 = .ok (.goto 4, 3) := by decide +kernel
theorem dX1_isGliding_22 : decode cX1_isGliding 22 = .ok (.iconst 0, 1) := by decide +kernel
theorem dX1_isGliding_23 : decode cX1_isGliding 23 = .ok (.ireturn, 1) := by decide +kernel
theorem dX1_comeDown_0 : decode cX1_comeDown 0 = .ok (.iconst 0, 1) := by decide +kernel
theorem dX1_comeDown_1 : decode cX1_comeDown 1 = .ok (.istore_n 2, 1) := by decide +kernel
theorem dX1_comeDown_2 : decode cX1_comeDown 2 = .ok (.aload_n 0, 1) := by decide +kernel
theorem dX1_comeDown_3 : decode cX1_comeDown 3 = .ok (.invokevirtual 54, 3) := by decide +kernel
theorem dX1_comeDown_6 : decode cX1_comeDown 6 = .ok (.ifCond .ne 21, 3) := by decide +kernel
theorem dX1_comeDown_9 : decode cX1_comeDown 9 = .ok (.iload_n 2, 1) := by decide +kernel
theorem dX1_comeDown_10 : decode cX1_comeDown 10 = .ok (.sipush 1000, 3) := by decide +kernel
theorem dX1_comeDown_13 : decode cX1_comeDown 13 = .ok (.if_icmp .ge 14, 3) := by decide +kernel
theorem dX1_comeDown_16 : decode cX1_comeDown 16 = .ok (.aload_n 0, 1) := by decide +kernel
theorem dX1_comeDown_17 : decode cX1_comeDown 17 = .ok (.aload_n 1, 1) := by decide +kernel
theorem dX1_comeDown_18 : decode cX1_comeDown 18 = .ok (.invokevirtual 58, 3) := by decide +kernel
theorem dX1_comeDown_21 : decode cX1_comeDown 21 = .ok (.iinc 2 1, 3) := by decide +kernel
theorem dX1_comeDown_24 : decode cX1_comeDown 24 = .ok (.goto (-22), 3) := by decide +kernel
theorem dX1_comeDown_27 : decode cX1_comeDown 27 = .ok (.iload_n 2, 1) := by decide +kernel
theorem dX1_comeDown_28 : decode cX1_comeDown 28 = .ok (.ireturn, 1) := by decide +kernel
theorem dX1_goOn_0 : decode cX1_goOn 0 = .ok (.aload_n 0, 1) := by decide +kernel
theorem dX1_goOn_1 : decode cX1_goOn 1 = .ok (.invokevirtual 62, 3) := by decide +kernel
theorem dX1_goOn_4 : decode cX1_goOn 4 = .ok (.istore_n 2, 1) := by decide +kernel
theorem dX1_goOn_5 : decode cX1_goOn 5 = .ok (.iload_n 2, 1) := by decide +kernel
theorem dX1_goOn_6 : decode cX1_goOn 6 = .ok (.ifCond .eq 46, 3) := by decide +kernel
theorem dX1_goOn_9 : decode cX1_goOn 9 = .ok (.aload_n 0, 1) := by decide +kernel
theorem dX1_goOn_10 : decode cX1_goOn 10 = .ok (.dup, 1) := by decide +kernel
theorem dX1_goOn_11 : decode cX1_goOn 11 = .ok (.getfield 38, 3) := by decide +kernel
theorem dX1_goOn_14 : decode cX1_goOn 14 = .ok (.aload_n 1, 1) := by decide +kernel
theorem dX1_goOn_15 : decode cX1_goOn 15 = .ok (.aload_n 0, 1) := by decide +kernel
theorem dX1_goOn_16 : decode cX1_goOn 16 = .ok (.getfield 32, 3) := by decide +kernel
theorem dX1_goOn_19 : decode cX1_goOn 19 = .ok (.invokevirtual 65, 3) := by decide +kernel
theorem dX1_goOn_22 : decode cX1_goOn 22 = .ok (.i2d, 1) := by decide +kernel
theorem dX1_goOn_23 : decode cX1_goOn 23 = .ok (.dadd, 1) := by decide +kernel
theorem dX1_goOn_24 : decode cX1_goOn 24 = .ok (.putfield 38, 3) := by decide +kernel
theorem dX1_goOn_27 : decode cX1_goOn 27 = .ok (.aload_n 0, 1) := by decide +kernel
theorem dX1_goOn_28 : decode cX1_goOn 28 = .ok (.dup, 1) := by decide +kernel
theorem dX1_goOn_29 : decode cX1_goOn 29 = .ok (.getfield 41, 3) := by decide +kernel
theorem dX1_goOn_32 : decode cX1_goOn 32 = .ok (.aload_n 1, 1) := by decide +kernel
theorem dX1_goOn_33 : decode cX1_goOn 33 = .ok (.aload_n 0, 1) := by decide +kernel
theorem dX1_goOn_34 : decode cX1_goOn 34 = .ok (.getfield 32, 3) := by decide +kernel
theorem dX1_goOn_37 : decode cX1_goOn 37 = .ok (.invokevirtual 71, 3) := by decide +kernel
theorem dX1_goOn_40 : decode cX1_goOn 40 = .ok (.i2d, 1) := by decide +kernel
theorem dX1_goOn_41 : decode cX1_goOn 41 = .ok (.dadd, 1) := by decide +kernel
theorem dX1_goOn_42 : decode cX1_goOn 42 = .ok (.putfield 41, 3) := by decide +kernel
theorem dX1_goOn_45 : decode cX1_goOn 45 = .ok (.aload_n 0, 1) := by decide +kernel
theorem dX1_goOn_46 : decode cX1_goOn 46 = .ok (.invokevirtual 74, 3) := by decide +kernel
theorem dX1_goOn_49 : decode cX1_goOn 49 = .ok (.goto 47, 3) := by decide +kernel
theorem dX1_goOn_52 : decode cX1_goOn 52 = .ok (.aload_n 0, 1) := by decide +kernel
theorem dX1_goOn_53 : decode cX1_goOn 53 = .ok (.dup, 1) := by decide +kernel
theorem dX1_goOn_54 : decode cX1_goOn 54 = .ok (.getfield 38, 3) := by decide +kernel
theorem dX1_goOn_57 : decode cX1_goOn 57 = .ok (.aload_n 1, 1) := by decide +kernel
theorem dX1_goOn_58 : decode cX1_goOn 58 = .ok (.aload_n 0, 1) := by decide +kernel
theorem dX1_goOn_59 : decode cX1_goOn 59 = .ok (.getfield 32, 3) := by decide +kernel
theorem dX1_goOn_62 : decode cX1_goOn 62 = .ok (.invokevirtual 65, 3) := by decide +kernel
theorem dX1_goOn_65 : decode cX1_goOn 65 = .ok (.i2d, 1) := by decide +kernel
theorem dX1_goOn_66 : decode cX1_goOn 66 = .ok (.ldc2_w 77, 3) := by decide +kernel
theorem dX1_goOn_69 : decode cX1_goOn 69 = .ok (.dmul, 1) := by decide +kernel
theorem dX1_goOn_70 : decode cX1_goOn 70 = .ok (.dadd, 1) := by decide +kernel
theorem dX1_goOn_71 : decode cX1_goOn 71 = .ok (.putfield 38, 3) := by decide +kernel
theorem dX1_goOn_74 : decode cX1_goOn 74 = .ok (.aload_n 0, 1) := by decide +kernel
theorem dX1_goOn_75 : decode cX1_goOn 75 = .ok (.dup, 1) := by decide +kernel
theorem dX1_goOn_76 : decode cX1_goOn 76 = .ok (.getfield 41, 3) := by decide +kernel
theorem dX1_goOn_79 : decode cX1_goOn 79 = .ok (.aload_n 1, 1) := by decide +kernel
theorem dX1_goOn_80 : decode cX1_goOn 80 = .ok (.aload_n 0, 1) := by decide +kernel
theorem dX1_goOn_81 : decode cX1_goOn 81 = .ok (.getfield 32, 3) := by decide +kernel
theorem dX1_goOn_84 : decode cX1_goOn 84 = .ok (.invokevirtual 71, 3) := by decide +kernel
theorem dX1_goOn_87 : decode cX1_goOn 87 = .ok (.i2d, 1) := by decide +kernel
theorem dX1_goOn_88 : decode cX1_goOn 88 = .ok (.ldc2_w 77, 3) := by decide +kernel
theorem dX1_goOn_91 : decode cX1_goOn 91 = .ok (.dmul, 1) := by decide +kernel
theorem dX1_goOn_92 : decode cX1_goOn 92 = .ok (.dadd, 1) := by decide +kernel
theorem dX1_goOn_93 : decode cX1_goOn 93 = .ok (.putfield 41, 3) := by decide +kernel
theorem dX1_goOn_96 : decode cX1_goOn 96 = .ok (.aload_n 0, 1) := by decide +kernel
theorem dX1_goOn_97 : decode cX1_goOn 97 = .ok (.dup, 1) := by decide +kernel
theorem dX1_goOn_98 : decode cX1_goOn 98 = .ok (.getfield 35, 3) := by decide +kernel
theorem dX1_goOn_101 : decode cX1_goOn 101 = .ok (.iconst 1, 1) := by decide +kernel
theorem dX1_goOn_102 : decode cX1_goOn 102 = .ok (.iadd, 1) := by decide +kernel
theorem dX1_goOn_103 : decode cX1_goOn 103 = .ok (.putfield 35, 3) := by decide +kernel
theorem dX1_goOn_106 : decode cX1_goOn 106 = .ok (.aload_n 0, 1) := by decide +kernel
theorem dX1_goOn_107 : decode cX1_goOn 107 = .ok (.getfield 35, 3) := by decide +kernel
theorem dX1_goOn_110 : decode cX1_goOn 110 = .ok (.iload_n 2, 1) := by decide +kernel
theorem dX1_goOn_111 : decode cX1_goOn 111 = .ok (.ifCond .eq 10, 3) := by decide +kernel
theorem dX1_goOn_114 : decode cX1_goOn 114 = .ok (.aload_n 0, 1) := by decide +kernel
theorem dX1_goOn_115 : decode cX1_goOn 115 = .ok (.getfield 18, 3) := by decide +kernel
theorem dX1_goOn_118 : decode cX1_goOn 118 = .ok (.goto 7, 3) := by decide +kernel
theorem dX1_goOn_121 : decode cX1_goOn 121 = .ok (.aload_n 0, 1) := by decide +kernel
theorem dX1_goOn_122 : decode cX1_goOn 122 = .ok (.getfield 15, 3) := by decide +kernel
theorem dX1_goOn_125 : decode cX1_goOn 125 = .ok (.if_icmp .lt 18, 3) := by decide +kernel
theorem dX1_goOn_128 : decode cX1_goOn 128 = .ok (.aload_n 0, 1) := by decide +kernel
theorem dX1_goOn_129 : decode cX1_goOn 129 = .ok (.dup, 1) := by decide +kernel
theorem dX1_goOn_130 : decode cX1_goOn 130 = .ok (.getfield 32, 3) := by decide +kernel
theorem dX1_goOn_133 : decode cX1_goOn 133 = .ok (.iconst 1, 1) := by decide +kernel
theorem dX1_goOn_134 : decode cX1_goOn 134 = .ok (.isub, 1) := by decide +kernel
theorem dX1_goOn_135 : decode cX1_goOn 135 = .ok (.putfield 32, 3) := by decide +kernel
theorem dX1_goOn_138 : decode cX1_goOn 138 = .ok (.aload_n 0, 1) := by decide +kernel
theorem dX1_goOn_139 : decode cX1_goOn 139 = .ok (.iconst 0, 1) := by decide +kernel
theorem dX1_goOn_140 : decode cX1_goOn 140 = .ok (.putfield 35, 3) := by decide +kernel
theorem dX1_goOn_143 : decode cX1_goOn 143 = .ok (.return_, 1) := by decide +kernel
theorem dX1_steer_0 : decode cX1_steer 0 = .ok (.aload_n 0, 1) := by decide +kernel
theorem dX1_steer_1 : decode cX1_steer 1 = .ok (.getfield 38, 3) := by decide +kernel
theorem dX1_steer_4 : decode cX1_steer 4 = .ok (.invokestatic 79, 3) := by decide +kernel
theorem dX1_steer_7 : decode cX1_steer 7 = .ok (.aload_n 0, 1) := by decide +kernel
theorem dX1_steer_8 : decode cX1_steer 8 = .ok (.getfield 41, 3) := by decide +kernel
theorem dX1_steer_11 : decode cX1_steer 11 = .ok (.invokestatic 79, 3) := by decide +kernel
theorem dX1_steer_14 : decode cX1_steer 14 = .ok (.dcmp .l, 1) := by decide +kernel
theorem dX1_steer_15 : decode cX1_steer 15 = .ok (.ifCond .lt 21, 3) := by decide +kernel
theorem dX1_steer_18 : decode cX1_steer 18 = .ok (.aload_n 0, 1) := by decide +kernel
theorem dX1_steer_19 : decode cX1_steer 19 = .ok (.aload_n 0, 1) := by decide +kernel
theorem dX1_steer_20 : decode cX1_steer 20 = .ok (.getfield 38, 3) := by decide +kernel
theorem dX1_steer_23 : decode cX1_steer 23 = .ok (.aload_n 0, 1) := by decide +kernel
theorem dX1_steer_24 : decode cX1_steer 24 = .ok (.getfield 21, 3) := by decide +kernel
theorem dX1_steer_27 : decode cX1_steer 27 = .ok (.invokestatic 83, 3) := by decide +kernel
theorem dX1_steer_30 : decode cX1_steer 30 = .ok (.putfield 38, 3) := by decide +kernel
theorem dX1_steer_33 : decode cX1_steer 33 = .ok (.goto 18, 3) := by decide +kernel
theorem dX1_steer_36 : decode cX1_steer 36 = .ok (.aload_n 0, 1) := by decide +kernel
theorem dX1_steer_37 : decode cX1_steer 37 = .ok (.aload_n 0, 1) := by decide +kernel
theorem dX1_steer_38 : decode cX1_steer 38 = .ok (.getfield 41, 3) := by decide +kernel
theorem dX1_steer_41 : decode cX1_steer 41 = .ok (.aload_n 0, 1) := by decide +kernel
theorem dX1_steer_42 : decode cX1_steer 42 = .ok (.getfield 21, 3) := by decide +kernel
theorem dX1_steer_45 : decode cX1_steer 45 = .ok (.invokestatic 83, 3) := by decide +kernel
theorem dX1_steer_48 : decode cX1_steer 48 = .ok (.putfield 41, 3) := by decide +kernel
theorem dX1_steer_51 : decode cX1_steer 51 = .ok (.return_, 1) := by decide +kernel
theorem dX1_nearer_0 : decode cX1_nearer 0 = .ok (.dload_n 0, 1) := by decide +kernel
theorem dX1_nearer_1 : decode cX1_nearer 1 = .ok (.dload_n 2, 1) := by decide +kernel
theorem dX1_nearer_2 : decode cX1_nearer 2 = .ok (.dcmp .l, 1) := by decide +kernel
theorem dX1_nearer_3 : decode cX1_nearer 3 = .ok (.ifCond .le 7, 3) := by decide +kernel
theorem dX1_nearer_6 : decode cX1_nearer 6 = .ok (.dload_n 0, 1) := by decide +kernel
theorem dX1_nearer_7 : decode cX1_nearer 7 = .ok (.dload_n 2, 1) := by decide +kernel
theorem dX1_nearer_8 : decode cX1_nearer 8 = .ok (.dsub, 1) := by decide +kernel
theorem dX1_nearer_9 : decode cX1_nearer 9 = .ok (.dreturn, 1) := by decide +kernel
theorem dX1_nearer_10 : decode cX1_nearer 10 = .ok (.dload_n 0, 1) := by decide +kernel
theorem dX1_nearer_11 : decode cX1_nearer 11 = .ok (.dload_n 2, 1) := by decide +kernel
theorem dX1_nearer_12 : decode cX1_nearer 12 = .ok (.dneg, 1) := by decide +kernel
theorem dX1_nearer_13 : decode cX1_nearer 13 = .ok (.dcmp .g, 1) := by decide +kernel
theorem dX1_nearer_14 : decode cX1_nearer 14 = .ok (.ifCond .ge 9, 3) := by decide +kernel
theorem dX1_nearer_17 : decode cX1_nearer 17 = .ok (.dload_n 0, 1) := by decide +kernel
theorem dX1_nearer_18 : decode cX1_nearer 18 = .ok (.dload_n 2, 1) := by decide +kernel
theorem dX1_nearer_19 : decode cX1_nearer 19 = .ok (.dadd, 1) := by decide +kernel
theorem dX1_nearer_20 : decode cX1_nearer 20 = .ok (.goto 4, 3) := by decide +kernel
theorem dX1_nearer_23 : decode cX1_nearer 23 = .ok (.dconst 0, 1) := by decide +kernel
theorem dX1_nearer_24 : decode cX1_nearer 24 = .ok (.dreturn, 1) := by decide +kernel
theorem dX1_sizeOf_0 : decode cX1_sizeOf 0 = .ok (.dload_n 0, 1) := by decide +kernel
theorem dX1_sizeOf_1 : decode cX1_sizeOf 1 = .ok (.dconst 0, 1) := by decide +kernel
theorem dX1_sizeOf_2 : decode cX1_sizeOf 2 = .ok (.dcmp .g, 1) := by decide +kernel
theorem dX1_sizeOf_3 : decode cX1_sizeOf 3 = .ok (.ifCond .ge 8, 3) := by decide +kernel
theorem dX1_sizeOf_6 : decode cX1_sizeOf 6 = .ok (.dload_n 0, 1) := by decide +kernel
theorem dX1_sizeOf_7 : decode cX1_sizeOf 7 = .ok (.dneg, 1) := by decide +kernel
theorem dX1_sizeOf_8 : decode cX1_sizeOf 8 = .ok (.goto 4, 3) := by decide +kernel
theorem dX1_sizeOf_11 : decode cX1_sizeOf 11 = .ok (.dload_n 0, 1) := by decide +kernel
theorem dX1_sizeOf_12 : decode cX1_sizeOf 12 = .ok (.dreturn, 1) := by decide +kernel
theorem dX1_far_0 : decode cX1_far 0 = .ok (.aload_n 0, 1) := by decide +kernel
theorem dX1_far_1 : decode cX1_far 1 = .ok (.getfield 38, 3) := by decide +kernel
theorem dX1_far_4 : decode cX1_far 4 = .ok (.invokestatic 79, 3) := by decide +kernel
theorem dX1_far_7 : decode cX1_far 7 = .ok (.aload_n 0, 1) := by decide +kernel
theorem dX1_far_8 : decode cX1_far 8 = .ok (.getfield 41, 3) := by decide +kernel
theorem dX1_far_11 : decode cX1_far 11 = .ok (.invokestatic 79, 3) := by decide +kernel
theorem dX1_far_14 : decode cX1_far 14 = .ok (.dcmp .l, 1) := by decide +kernel
theorem dX1_far_15 : decode cX1_far 15 = .ok (.ifCond .lt 13, 3) := by decide +kernel
theorem dX1_far_18 : decode cX1_far 18 = .ok (.aload_n 0, 1) := by decide +kernel
theorem dX1_far_19 : decode cX1_far 19 = .ok (.getfield 38, 3) := by decide +kernel
theorem dX1_far_22 : decode cX1_far 22 = .ok (.invokestatic 79, 3) := by decide +kernel
theorem dX1_far_25 : decode cX1_far 25 = .ok (.goto 10, 3) := by decide +kernel
theorem dX1_far_28 : decode cX1_far 28 = .ok (.aload_n 0, 1) := by decide +kernel
theorem dX1_far_29 : decode cX1_far 29 = .ok (.getfield 41, 3) := by decide +kernel
theorem dX1_far_32 : decode cX1_far 32 = .ok (.invokestatic 79, 3) := by decide +kernel
theorem dX1_far_35 : decode cX1_far 35 = .ok (.dreturn, 1) := by decide +kernel
theorem dX1_points_0 : decode cX1_points 0 = .ok (.aload_n 0, 1) := by decide +kernel
theorem dX1_points_1 : decode cX1_points 1 = .ok (.invokevirtual 87, 3) := by decide +kernel
theorem dX1_points_4 : decode cX1_points 4 = .ok (.dstore_n 1, 1) := by decide +kernel
theorem dX1_points_5 : decode cX1_points 5 = .ok (.dload_n 1, 1) := by decide +kernel
theorem dX1_points_6 : decode cX1_points 6 = .ok (.ldc2_w 91, 3) := by decide +kernel
theorem dX1_points_9 : decode cX1_points 9 = .ok (.dcmp .g, 1) := by decide +kernel
theorem dX1_points_10 : decode cX1_points 10 = .ok (.ifCond .gt 5, 3) := by decide +kernel
theorem dX1_points_13 : decode cX1_points 13 = .ok (.iconst 3, 1) := by decide +kernel
theorem dX1_points_14 : decode cX1_points 14 = .ok (.ireturn, 1) := by decide +kernel
theorem dX1_points_15 : decode cX1_points 15 = .ok (.dload_n 1, 1) := by decide +kernel
theorem dX1_points_16 : decode cX1_points 16 = .ok (.ldc2_w 93, 3) := by decide +kernel
theorem dX1_points_19 : decode cX1_points 19 = .ok (.dcmp .g, 1) := by decide +kernel
theorem dX1_points_20 : decode cX1_points 20 = .ok (.ifCond .gt 7, 3) := by decide +kernel
theorem dX1_points_23 : decode cX1_points 23 = .ok (.iconst 1, 1) := by decide +kernel
theorem dX1_points_24 : decode cX1_points 24 = .ok (.goto 4, 3) := by decide +kernel
theorem dX1_points_27 : decode cX1_points 27 = .ok (.iconst 0, 1) := by decide +kernel
theorem dX1_points_28 : decode cX1_points 28 = .ok (.ireturn, 1) := by decide +kernel
theorem dX1_isNear_0 : decode cX1_isNear 0 = .ok (.aload_n 0, 1) := by decide +kernel
theorem dX1_isNear_1 : decode cX1_isNear 1 = .ok (.invokevirtual 62, 3) := by decide +kernel
theorem dX1_isNear_4 : decode cX1_isNear 4 = .ok (.ifCond .eq 63, 3) := by decide +kernel
theorem dX1_isNear_7 : decode cX1_isNear 7 = .ok (.aload_n 1, 1) := by decide +kernel
theorem dX1_isNear_8 : decode cX1_isNear 8 = .ok (.invokevirtual 62, 3) := by decide +kernel
theorem dX1_isNear_11 : decode cX1_isNear 11 = .ok (.ifCond .eq 56, 3) := by decide +kernel
theorem dX1_isNear_14 : decode cX1_isNear 14 = .ok (.aload_n 0, 1) := by decide +kernel
theorem dX1_isNear_15 : decode cX1_isNear 15 = .ok (.getfield 32, 3) := by decide +kernel
theorem dX1_isNear_18 : decode cX1_isNear 18 = .ok (.aload_n 1, 1) := by decide +kernel
theorem dX1_isNear_19 : decode cX1_isNear 19 = .ok (.getfield 32, 3) := by decide +kernel
theorem dX1_isNear_22 : decode cX1_isNear 22 = .ok (.if_icmp .ne 45, 3) := by decide +kernel
theorem dX1_isNear_25 : decode cX1_isNear 25 = .ok (.aload_n 0, 1) := by decide +kernel
theorem dX1_isNear_26 : decode cX1_isNear 26 = .ok (.getfield 38, 3) := by decide +kernel
theorem dX1_isNear_29 : decode cX1_isNear 29 = .ok (.aload_n 1, 1) := by decide +kernel
theorem dX1_isNear_30 : decode cX1_isNear 30 = .ok (.getfield 38, 3) := by decide +kernel
theorem dX1_isNear_33 : decode cX1_isNear 33 = .ok (.dsub, 1) := by decide +kernel
theorem dX1_isNear_34 : decode cX1_isNear 34 = .ok (.invokestatic 79, 3) := by decide +kernel
theorem dX1_isNear_37 : decode cX1_isNear 37 = .ok (.ldc2_w 95, 3) := by decide +kernel
theorem dX1_isNear_40 : decode cX1_isNear 40 = .ok (.dcmp .g, 1) := by decide +kernel
theorem dX1_isNear_41 : decode cX1_isNear 41 = .ok (.ifCond .ge 26, 3) := by decide +kernel
theorem dX1_isNear_44 : decode cX1_isNear 44 = .ok (.aload_n 0, 1) := by decide +kernel
theorem dX1_isNear_45 : decode cX1_isNear 45 = .ok (.getfield 41, 3) := by decide +kernel
theorem dX1_isNear_48 : decode cX1_isNear 48 = .ok (.aload_n 1, 1) := by decide +kernel
theorem dX1_isNear_49 : decode cX1_isNear 49 = .ok (.getfield 41, 3) := by decide +kernel
theorem dX1_isNear_52 : decode cX1_isNear 52 = .ok (.dsub, 1) := by decide +kernel
theorem dX1_isNear_53 : decode cX1_isNear 53 = .ok (.invokestatic 79, 3) := by decide +kernel
theorem dX1_isNear_56 : decode cX1_isNear 56 = .ok (.ldc2_w 95, 3) := by decide +kernel
theorem dX1_isNear_59 : decode cX1_isNear 59 = .ok (.dcmp .g, 1) := by decide +kernel
theorem dX1_isNear_60 : decode cX1_isNear 60 = .ok (.ifCond .ge 7, 3) := by decide +kernel
theorem dX1_isNear_63 : decode cX1_isNear 63 = .ok (.iconst 1, 1) := by decide +kernel
theorem dX1_isNear_64 : decode cX1_isNear 64 = .ok (.goto 4, 3) := by decide +kernel
theorem dX1_isNear_67 : decode cX1_isNear 67 = .ok (.iconst 0, 1) := by decide +kernel
theorem dX1_isNear_68 : decode cX1_isNear 68 = .ok (.ireturn, 1) := by decide +kernel
theorem dX2_init_0 : decode cX2_init 0 = .ok (.aload_n 0, 1) := by decide +kernel
theorem dX2_init_1 : decode cX2_init 1 = .ok (.invokespecial 3, 3) := by decide +kernel
theorem dX2_init_4 : decode cX2_init 4 = .ok (.aload_n 0, 1) := by decide +kernel
theorem dX2_init_5 : decode cX2_init 5 = .ok (.iconst 0, 1) := by decide +kernel
theorem dX2_init_6 : decode cX2_init 6 = .ok (.putfield 9, 3) := by decide +kernel
theorem dX2_init_9 : decode cX2_init 9 = .ok (.aload_n 0, 1) := by decide +kernel
theorem dX2_init_10 : decode cX2_init 10 = .ok (.iconst 0, 1) := by decide +kernel
theorem dX2_init_11 : decode cX2_init 11 = .ok (.putfield 15, 3) := by decide +kernel
theorem dX2_init_14 : decode cX2_init 14 = .ok (.aload_n 0, 1) := by decide +kernel
theorem dX2_init_15 : decode cX2_init 15 = .ok (.iconst (-1), 1) := by decide +kernel
theorem dX2_init_16 : decode cX2_init 16 = .ok (.putfield 18, 3) := by decide +kernel
theorem dX2_init_19 : decode cX2_init 19 = .ok (.aload_n 0, 1) := by decide +kernel
theorem dX2_init_20 : decode cX2_init 20 = .ok (.iconst 0, 1) := by decide +kernel
theorem dX2_init_21 : decode cX2_init 21 = .ok (.putfield 21, 3) := by decide +kernel
theorem dX2_init_24 : decode cX2_init 24 = .ok (.aload_n 0, 1) := by decide +kernel
theorem dX2_init_25 : decode cX2_init 25 = .ok (.iconst 0, 1) := by decide +kernel
theorem dX2_init_26 : decode cX2_init 26 = .ok (.putfield 24, 3) := by decide +kernel
theorem dX2_init_29 : decode cX2_init 29 = .ok (.aload_n 0, 1) := by decide +kernel
theorem dX2_init_30 : decode cX2_init 30 = .ok (.iconst 0, 1) := by decide +kernel
theorem dX2_init_31 : decode cX2_init 31 = .ok (.putfield 27, 3) := by decide +kernel
theorem dX2_init_34 : decode cX2_init 34 = .ok (.aload_n 0, 1) := by decide +kernel
theorem dX2_init_35 : decode cX2_init 35 = .ok (.iconst 0, 1) := by decide +kernel
theorem dX2_init_36 : decode cX2_init 36 = .ok (.putfield 30, 3) := by decide +kernel
theorem dX2_init_39 : decode cX2_init 39 = .ok (.aload_n 0, 1) := by decide +kernel
theorem dX2_init_40 : decode cX2_init 40 = .ok (.iconst 0, 1) := by decide +kernel
theorem dX2_init_41 : decode cX2_init 41 = .ok (.putfield 33, 3) := by decide +kernel
theorem dX2_init_44 : decode cX2_init 44 = .ok (.aload_n 0, 1) := by decide +kernel
theorem dX2_init_45 : decode cX2_init 45 = .ok (.dconst 0, 1) := by decide +kernel
theorem dX2_init_46 : decode cX2_init 46 = .ok (.putfield 36, 3) := by decide +kernel
theorem dX2_init_49 : decode cX2_init 49 = .ok (.aload_n 0, 1) := by decide +kernel
theorem dX2_init_50 : decode cX2_init 50 = .ok (.dconst 0, 1) := by decide +kernel
theorem dX2_init_51 : decode cX2_init 51 = .ok (.putfield 40, 3) := by decide +kernel
theorem dX2_init_54 : decode cX2_init 54 = .ok (.aload_n 0, 1) := by decide +kernel
theorem dX2_init_55 : decode cX2_init 55 = .ok (.iconst 0, 1) := by decide +kernel
theorem dX2_init_56 : decode cX2_init 56 = .ok (.putfield 43, 3) := by decide +kernel
theorem dX2_init_59 : decode cX2_init 59 = .ok (.aload_n 0, 1) := by decide +kernel
theorem dX2_init_60 : decode cX2_init 60 = .ok (.bipush 6, 2) := by decide +kernel
theorem dX2_init_62 : decode cX2_init 62 = .ok (.putfield 46, 3) := by decide +kernel
theorem dX2_init_65 : decode cX2_init 65 = .ok (.return_, 1) := by decide +kernel
theorem dX3_init_0 : decode cX3_init 0 = .ok (.aload_n 0, 1) := by decide +kernel
theorem dX3_init_1 : decode cX3_init 1 = .ok (.invokespecial 1, 3) := by decide +kernel
theorem dX3_init_4 : decode cX3_init 4 = .ok (.aload_n 0, 1) := by decide +kernel
theorem dX3_init_5 : decode cX3_init 5 = .ok (.iconst 0, 1) := by decide +kernel
theorem dX3_init_6 : decode cX3_init 6 = .ok (.putfield 7, 3) := by decide +kernel
theorem dX3_init_9 : decode cX3_init 9 = .ok (.aload_n 0, 1) := by decide +kernel
theorem dX3_init_10 : decode cX3_init 10 = .ok (.iconst 0, 1) := by decide +kernel
theorem dX3_init_11 : decode cX3_init 11 = .ok (.putfield 13, 3) := by decide +kernel
theorem dX3_init_14 : decode cX3_init 14 = .ok (.aload_n 0, 1) := by decide +kernel
theorem dX3_init_15 : decode cX3_init 15 = .ok (.iconst 0, 1) := by decide +kernel
theorem dX3_init_16 : decode cX3_init 16 = .ok (.putfield 16, 3) := by decide +kernel
theorem dX3_init_19 : decode cX3_init 19 = .ok (.aload_n 0, 1) := by decide +kernel
theorem dX3_init_20 : decode cX3_init 20 = .ok (.iconst 0, 1) := by decide +kernel
theorem dX3_init_21 : decode cX3_init 21 = .ok (.putfield 19, 3) := by decide +kernel
theorem dX3_init_24 : decode cX3_init 24 = .ok (.aload_n 0, 1) := by decide +kernel
theorem dX3_init_25 : decode cX3_init 25 = .ok (.fconst 0, 1) := by decide +kernel
theorem dX3_init_26 : decode cX3_init 26 = .ok (.putfield 23, 3) := by decide +kernel
theorem dX3_init_29 : decode cX3_init 29 = .ok (.return_, 1) := by decide +kernel
theorem dX4_init_0 : decode cX4_init 0 = .ok (.aload_n 0, 1) := by decide +kernel
theorem dX4_init_1 : decode cX4_init 1 = .ok (.invokespecial 3, 3) := by decide +kernel
theorem dX4_init_4 : decode cX4_init 4 = .ok (.aload_n 0, 1) := by decide +kernel
theorem dX4_init_5 : decode cX4_init 5 = .ok (.bipush 10, 2) := by decide +kernel
theorem dX4_init_7 : decode cX4_init 7 = .ok (.newarray .int, 2) := by decide +kernel
theorem dX4_init_9 : decode cX4_init 9 = .ok (.putfield 9, 3) := by decide +kernel
theorem dX4_init_12 : decode cX4_init 12 = .ok (.aload_n 0, 1) := by decide +kernel
theorem dX4_init_13 : decode cX4_init 13 = .ok (.bipush 10, 2) := by decide +kernel
theorem dX4_init_15 : decode cX4_init 15 = .ok (.newarray .int, 2) := by decide +kernel
theorem dX4_init_17 : decode cX4_init 17 = .ok (.putfield 15, 3) := by decide +kernel
theorem dX4_init_20 : decode cX4_init 20 = .ok (.return_, 1) := by decide +kernel
theorem dX4_tell_0 : decode cX4_tell 0 = .ok (.iload_n 1, 1) := by decide +kernel
theorem dX4_tell_1 : decode cX4_tell 1 = .ok (.ifCond .lt 23, 3) := by decide +kernel
theorem dX4_tell_4 : decode cX4_tell 4 = .ok (.iload_n 1, 1) := by decide +kernel
theorem dX4_tell_5 : decode cX4_tell 5 = .ok (.bipush 10, 2) := by decide +kernel
theorem dX4_tell_7 : decode cX4_tell 7 = .ok (.if_icmp .ge 17, 3) := by decide +kernel
theorem dX4_tell_10 : decode cX4_tell 10 = .ok (.aload_n 0, 1) := by decide +kernel
theorem dX4_tell_11 : decode cX4_tell 11 = .ok (.getfield 9, 3) := by decide +kernel
theorem dX4_tell_14 : decode cX4_tell 14 = .ok (.iload_n 1, 1) := by decide +kernel
theorem dX4_tell_15 : decode cX4_tell 15 = .ok (.iload_n 2, 1) := by decide +kernel
theorem dX4_tell_16 : decode cX4_tell 16 = .ok (.iastore, 1) := by decide +kernel
theorem dX4_tell_17 : decode cX4_tell 17 = .ok (.aload_n 0, 1) := by decide +kernel
theorem dX4_tell_18 : decode cX4_tell 18 = .ok (.getfield 15, 3) := by decide +kernel
theorem dX4_tell_21 : decode cX4_tell 21 = .ok (.iload_n 1, 1) := by decide +kernel
theorem dX4_tell_22 : decode cX4_tell 22 = .ok (.iload_n 3, 1) := by decide +kernel
theorem dX4_tell_23 : decode cX4_tell 23 = .ok (.iastore, 1) := by decide +kernel
theorem dX4_tell_24 : decode cX4_tell 24 = .ok (.return_, 1) := by decide +kernel
theorem dX4_xOf_0 : decode cX4_xOf 0 = .ok (.iload_n 1, 1) := by decide +kernel
theorem dX4_xOf_1 : decode cX4_xOf 1 = .ok (.ifCond .lt 18, 3) := by decide +kernel
theorem dX4_xOf_4 : decode cX4_xOf 4 = .ok (.iload_n 1, 1) := by decide +kernel
theorem dX4_xOf_5 : decode cX4_xOf 5 = .ok (.bipush 10, 2) := by decide +kernel
theorem dX4_xOf_7 : decode cX4_xOf 7 = .ok (.if_icmp .ge 12, 3) := by decide +kernel
theorem dX4_xOf_10 : decode cX4_xOf 10 = .ok (.aload_n 0, 1) := by decide +kernel
theorem dX4_xOf_11 : decode cX4_xOf 11 = .ok (.getfield 9, 3) := by decide +kernel
theorem dX4_xOf_14 : decode cX4_xOf 14 = .ok (.iload_n 1, 1) := by decide +kernel
theorem dX4_xOf_15 : decode cX4_xOf 15 = .ok (.iaload, 1) := by decide +kernel
theorem dX4_xOf_16 : decode cX4_xOf 16 = .ok (.goto 4, 3) := by decide +kernel
theorem dX4_xOf_19 : decode cX4_xOf 19 = .ok (.iconst 0, 1) := by decide +kernel
theorem dX4_xOf_20 : decode cX4_xOf 20 = .ok (.ireturn, 1) := by decide +kernel
theorem dX4_yOf_0 : decode cX4_yOf 0 = .ok (.iload_n 1, 1) := by decide +kernel
theorem dX4_yOf_1 : decode cX4_yOf 1 = .ok (.ifCond .lt 18, 3) := by decide +kernel
theorem dX4_yOf_4 : decode cX4_yOf 4 = .ok (.iload_n 1, 1) := by decide +kernel
theorem dX4_yOf_5 : decode cX4_yOf 5 = .ok (.bipush 10, 2) := by decide +kernel
theorem dX4_yOf_7 : decode cX4_yOf 7 = .ok (.if_icmp .ge 12, 3) := by decide +kernel
theorem dX4_yOf_10 : decode cX4_yOf 10 = .ok (.aload_n 0, 1) := by decide +kernel
theorem dX4_yOf_11 : decode cX4_yOf 11 = .ok (.getfield 15, 3) := by decide +kernel
theorem dX4_yOf_14 : decode cX4_yOf 14 = .ok (.iload_n 1, 1) := by decide +kernel
theorem dX4_yOf_15 : decode cX4_yOf 15 = .ok (.iaload, 1) := by decide +kernel
theorem dX4_yOf_16 : decode cX4_yOf 16 = .ok (.goto 4, 3) := by decide +kernel
theorem dX4_yOf_19 : decode cX4_yOf 19 = .ok (.iconst 0, 1) := by decide +kernel
theorem dX4_yOf_20 : decode cX4_yOf 20 = .ok (.ireturn, 1) := by decide +kernel
theorem dX4_ground_0 : decode cX4_ground 0 = .ok (.aload_n 0, 1) := by decide +kernel
theorem dX4_ground_1 : decode cX4_ground 1 = .ok (.getfield 9, 3) := by decide +kernel
theorem dX4_ground_4 : decode cX4_ground 4 = .ok (.iconst 0, 1) := by decide +kernel
theorem dX4_ground_5 : decode cX4_ground 5 = .ok (.iaload, 1) := by decide +kernel
theorem dX4_ground_6 : decode cX4_ground 6 = .ok (.invokestatic 18, 3) := by decide +kernel
theorem dX4_ground_9 : decode cX4_ground 9 = .ok (.aload_n 0, 1) := by decide +kernel
theorem dX4_ground_10 : decode cX4_ground 10 = .ok (.getfield 15, 3) := by decide +kernel
theorem dX4_ground_13 : decode cX4_ground 13 = .ok (.iconst 0, 1) := by decide +kernel
theorem dX4_ground_14 : decode cX4_ground 14 = .ok (.iaload, 1) := by decide +kernel
theorem dX4_ground_15 : decode cX4_ground 15 = .ok (.invokestatic 18, 3) := by decide +kernel
theorem dX4_ground_18 : decode cX4_ground 18 = .ok (.iadd, 1) := by decide +kernel
theorem dX4_ground_19 : decode cX4_ground 19 = .ok (.ireturn, 1) := by decide +kernel
theorem dX5_init_0 : decode cX5_init 0 = .ok (.aload_n 0, 1) := by decide +kernel
theorem dX5_init_1 : decode cX5_init 1 = .ok (.invokespecial 3, 3) := by decide +kernel
theorem dX5_init_4 : decode cX5_init 4 = .ok (.aload_n 0, 1) := by decide +kernel
theorem dX5_init_5 : decode cX5_init 5 = .ok (.bipush 8, 2) := by decide +kernel
theorem dX5_init_7 : decode cX5_init 7 = .ok (.anewarray 9, 3) := by decide +kernel
theorem dX5_init_10 : decode cX5_init 10 = .ok (.putfield 11, 3) := by decide +kernel
theorem dX5_init_13 : decode cX5_init 13 = .ok (.aload_n 0, 1) := by decide +kernel
theorem dX5_init_14 : decode cX5_init 14 = .ok (.iconst 0, 1) := by decide +kernel
theorem dX5_init_15 : decode cX5_init 15 = .ok (.putfield 15, 3) := by decide +kernel
theorem dX5_init_18 : decode cX5_init 18 = .ok (.aload_n 0, 1) := by decide +kernel
theorem dX5_init_19 : decode cX5_init 19 = .ok (.bipush 8, 2) := by decide +kernel
theorem dX5_init_21 : decode cX5_init 21 = .ok (.anewarray 19, 3) := by decide +kernel
theorem dX5_init_24 : decode cX5_init 24 = .ok (.putfield 21, 3) := by decide +kernel
theorem dX5_init_27 : decode cX5_init 27 = .ok (.aload_n 0, 1) := by decide +kernel
theorem dX5_init_28 : decode cX5_init 28 = .ok (.iconst 0, 1) := by decide +kernel
theorem dX5_init_29 : decode cX5_init 29 = .ok (.putfield 25, 3) := by decide +kernel
theorem dX5_init_32 : decode cX5_init 32 = .ok (.aload_n 0, 1) := by decide +kernel
theorem dX5_init_33 : decode cX5_init 33 = .ok (.new 28, 3) := by decide +kernel
theorem dX5_init_36 : decode cX5_init 36 = .ok (.dup, 1) := by decide +kernel
theorem dX5_init_37 : decode cX5_init 37 = .ok (.invokespecial 30, 3) := by decide +kernel
theorem dX5_init_40 : decode cX5_init 40 = .ok (.putfield 31, 3) := by decide +kernel
theorem dX5_init_43 : decode cX5_init 43 = .ok (.aload_n 0, 1) := by decide +kernel
theorem dX5_init_44 : decode cX5_init 44 = .ok (.bipush 6, 2) := by decide +kernel
theorem dX5_init_46 : decode cX5_init 46 = .ok (.newarray .int, 2) := by decide +kernel
theorem dX5_init_48 : decode cX5_init 48 = .ok (.putfield 35, 3) := by decide +kernel
theorem dX5_init_51 : decode cX5_init 51 = .ok (.aload_n 0, 1) := by decide +kernel
theorem dX5_init_52 : decode cX5_init 52 = .ok (.iconst 0, 1) := by decide +kernel
theorem dX5_init_53 : decode cX5_init 53 = .ok (.putfield 39, 3) := by decide +kernel
theorem dX5_init_56 : decode cX5_init 56 = .ok (.aload_n 0, 1) := by decide +kernel
theorem dX5_init_57 : decode cX5_init 57 = .ok (.iconst 0, 1) := by decide +kernel
theorem dX5_init_58 : decode cX5_init 58 = .ok (.putfield 42, 3) := by decide +kernel
theorem dX5_init_61 : decode cX5_init 61 = .ok (.aload_n 0, 1) := by decide +kernel
theorem dX5_init_62 : decode cX5_init 62 = .ok (.new 46, 3) := by decide +kernel
theorem dX5_init_65 : decode cX5_init 65 = .ok (.dup, 1) := by decide +kernel
theorem dX5_init_66 : decode cX5_init 66 = .ok (.invokespecial 48, 3) := by decide +kernel
theorem dX5_init_69 : decode cX5_init 69 = .ok (.putfield 49, 3) := by decide +kernel
theorem dX5_init_72 : decode cX5_init 72 = .ok (.aload_n 0, 1) := by decide +kernel
theorem dX5_init_73 : decode cX5_init 73 = .ok (.new 53, 3) := by decide +kernel
theorem dX5_init_76 : decode cX5_init 76 = .ok (.dup, 1) := by decide +kernel
theorem dX5_init_77 : decode cX5_init 77 = .ok (.invokespecial 55, 3) := by decide +kernel
theorem dX5_init_80 : decode cX5_init 80 = .ok (.putfield 56, 3) := by decide +kernel
theorem dX5_init_83 : decode cX5_init 83 = .ok (.aload_n 0, 1) := by decide +kernel
theorem dX5_init_84 : decode cX5_init 84 = .ok (.iconst 0, 1) := by decide +kernel
theorem dX5_init_85 : decode cX5_init 85 = .ok (.putfield 60, 3) := by decide +kernel
theorem dX5_init_88 : decode cX5_init 88 = .ok (.aload_n 0, 1) := by decide +kernel
theorem dX5_init_89 : decode cX5_init 89 = .ok (.iconst 3, 1) := by decide +kernel
theorem dX5_init_90 : decode cX5_init 90 = .ok (.putfield 63, 3) := by decide +kernel
theorem dX5_init_93 : decode cX5_init 93 = .ok (.aload_n 0, 1) := by decide +kernel
theorem dX5_init_94 : decode cX5_init 94 = .ok (.iconst 0, 1) := by decide +kernel
theorem dX5_init_95 : decode cX5_init 95 = .ok (.putfield 66, 3) := by decide +kernel
theorem dX5_init_98 : decode cX5_init 98 = .ok (.aload_n 0, 1) := by decide +kernel
theorem dX5_init_99 : decode cX5_init 99 = .ok (.iconst 0, 1) := by decide +kernel
theorem dX5_init_100 : decode cX5_init 100 = .ok (.putfield 69, 3) := by decide +kernel
theorem dX5_init_103 : decode cX5_init 103 = .ok (.aload_n 0, 1) := by decide +kernel
theorem dX5_init_104 : decode cX5_init 104 = .ok (.iconst 0, 1) := by decide +kernel
theorem dX5_init_105 : decode cX5_init 105 = .ok (.putfield 72, 3) := by decide +kernel
theorem dX5_init_108 : decode cX5_init 108 = .ok (.aload_n 0, 1) := by decide +kernel
theorem dX5_init_109 : decode cX5_init 109 = .ok (.iconst 0, 1) := by decide +kernel
theorem dX5_init_110 : decode cX5_init 110 = .ok (.putfield 75, 3) := by decide +kernel
theorem dX5_init_113 : decode cX5_init 113 = .ok (.aload_n 0, 1) := by decide +kernel
theorem dX5_init_114 : decode cX5_init 114 = .ok (.iconst 0, 1) := by decide +kernel
theorem dX5_init_115 : decode cX5_init 115 = .ok (.putfield 78, 3) := by decide +kernel
theorem dX5_init_118 : decode cX5_init 118 = .ok (.aload_n 0, 1) := by decide +kernel
theorem dX5_init_119 : decode cX5_init 119 = .ok (.iconst 0, 1) := by decide +kernel
theorem dX5_init_120 : decode cX5_init 120 = .ok (.putfield 81, 3) := by decide +kernel
theorem dX5_init_123 : decode cX5_init 123 = .ok (.iconst 0, 1) := by decide +kernel
theorem dX5_init_124 : decode cX5_init 124 = .ok (.istore_n 1, 1) := by decide +kernel
theorem dX5_init_125 : decode cX5_init 125 = .ok (.iload_n 1, 1) := by decide +kernel
theorem dX5_init_126 : decode cX5_init 126 = .ok (.bipush 8, 2) := by decide +kernel
theorem dX5_init_128 : decode cX5_init 128 = .ok (.if_icmp .ge 22, 3) := by decide +kernel
theorem dX5_init_131 : decode cX5_init 131 = .ok (.aload_n 0, 1) := by decide +kernel
theorem dX5_init_132 : decode cX5_init 132 = .ok (.getfield 11, 3) := by decide +kernel
theorem dX5_init_135 : decode cX5_init 135 = .ok (.iload_n 1, 1) := by decide +kernel
theorem dX5_init_136 : decode cX5_init 136 = .ok (.new 9, 3) := by decide +kernel
theorem dX5_init_139 : decode cX5_init 139 = .ok (.dup, 1) := by decide +kernel
theorem dX5_init_140 : decode cX5_init 140 = .ok (.invokespecial 84, 3) := by decide +kernel
theorem dX5_init_143 : decode cX5_init 143 = .ok (.aastore, 1) := by decide +kernel
theorem dX5_init_144 : decode cX5_init 144 = .ok (.iinc 1 1, 3) := by decide +kernel
theorem dX5_init_147 : decode cX5_init 147 = .ok (.goto (-22), 3) := by decide +kernel
theorem dX5_init_150 : decode cX5_init 150 = .ok (.iconst 0, 1) := by decide +kernel
theorem dX5_init_151 : decode cX5_init 151 = .ok (.istore_n 1, 1) := by decide +kernel
theorem dX5_init_152 : decode cX5_init 152 = .ok (.iload_n 1, 1) := by decide +kernel
theorem dX5_init_153 : decode cX5_init 153 = .ok (.bipush 8, 2) := by decide +kernel
theorem dX5_init_155 : decode cX5_init 155 = .ok (.if_icmp .ge 22, 3) := by decide +kernel
theorem dX5_init_158 : decode cX5_init 158 = .ok (.aload_n 0, 1) := by decide +kernel
theorem dX5_init_159 : decode cX5_init 159 = .ok (.getfield 21, 3) := by decide +kernel
theorem dX5_init_162 : decode cX5_init 162 = .ok (.iload_n 1, 1) := by decide +kernel
theorem dX5_init_163 : decode cX5_init 163 = .ok (.new 19, 3) := by decide +kernel
theorem dX5_init_166 : decode cX5_init 166 = .ok (.dup, 1) := by decide +kernel
theorem dX5_init_167 : decode cX5_init 167 = .ok (.invokespecial 85, 3) := by decide +kernel
theorem dX5_init_170 : decode cX5_init 170 = .ok (.aastore, 1) := by decide +kernel
theorem dX5_init_171 : decode cX5_init 171 = .ok (.iinc 1 1, 3) := by decide +kernel
theorem dX5_init_174 : decode cX5_init 174 = .ok (.goto (-22), 3) := by decide +kernel
theorem dX5_init_177 : decode cX5_init 177 = .ok (.return_, 1) := by decide +kernel
theorem dX5_jumper_0 : decode cX5_jumper 0 = .ok (.iload_n 1, 1) := by decide +kernel
theorem dX5_jumper_1 : decode cX5_jumper 1 = .ok (.bipush 50, 2) := by decide +kernel
theorem dX5_jumper_3 : decode cX5_jumper 3 = .ok (.sipush 130, 3) := by decide +kernel
theorem dX5_jumper_6 : decode cX5_jumper 6 = .ok (.invokestatic 86, 3) := by decide +kernel
theorem dX5_jumper_9 : decode cX5_jumper 9 = .ok (.iload_n 2, 1) := by decide +kernel
theorem dX5_jumper_10 : decode cX5_jumper 10 = .ok (.iconst 0, 1) := by decide +kernel
theorem dX5_jumper_11 : decode cX5_jumper 11 = .ok (.iconst 3, 1) := by decide +kernel
theorem dX5_jumper_12 : decode cX5_jumper 12 = .ok (.invokestatic 86, 3) := by decide +kernel
theorem dX5_jumper_15 : decode cX5_jumper 15 = .ok (.aload_n 0, 1) := by decide +kernel
theorem dX5_jumper_16 : decode cX5_jumper 16 = .ok (.getfield 15, 3) := by decide +kernel
theorem dX5_jumper_19 : decode cX5_jumper 19 = .ok (.bipush 8, 2) := by decide +kernel
theorem dX5_jumper_21 : decode cX5_jumper 21 = .ok (.if_icmp .lt 13, 3) := by decide +kernel
theorem dX5_jumper_24 : decode cX5_jumper 24 = .ok (.new 90, 3) := by decide +kernel
theorem dX5_jumper_27 : decode cX5_jumper 27 = .ok (.dup, 1) := by decide +kernel
theorem dX5_jumper_28 : decode cX5_jumper 28 = .ok (.ldc 92, 2) := by decide +kernel
theorem dX5_jumper_30 : decode cX5_jumper 30 = .ok (.invokespecial 94, 3) := by decide +kernel
theorem dX5_jumper_33 : decode cX5_jumper 33 = .ok (.athrow, 1) := by decide +kernel
theorem dX5_jumper_34 : decode cX5_jumper 34 = .ok (.aload_n 0, 1) := by decide +kernel
theorem dX5_jumper_35 : decode cX5_jumper 35 = .ok (.getfield 11, 3) := by decide +kernel
theorem dX5_jumper_38 : decode cX5_jumper 38 = .ok (.aload_n 0, 1) := by decide +kernel
theorem dX5_jumper_39 : decode cX5_jumper 39 = .ok (.getfield 15, 3) := by decide +kernel
theorem dX5_jumper_42 : decode cX5_jumper 42 = .ok (.aaload, 1) := by decide +kernel
theorem dX5_jumper_43 : decode cX5_jumper 43 = .ok (.astore_n 3, 1) := by decide +kernel
theorem dX5_jumper_44 : decode cX5_jumper 44 = .ok (.aload_n 3, 1) := by decide +kernel
theorem dX5_jumper_45 : decode cX5_jumper 45 = .ok (.iload_n 1, 1) := by decide +kernel
theorem dX5_jumper_46 : decode cX5_jumper 46 = .ok (.putfield 97, 3) := by decide +kernel
theorem dX5_jumper_49 : decode cX5_jumper 49 = .ok (.aload_n 3, 1) := by decide +kernel
theorem dX5_jumper_50 : decode cX5_jumper 50 = .ok (.iload_n 2, 1) := by decide +kernel
theorem dX5_jumper_51 : decode cX5_jumper 51 = .ok (.putfield 100, 3) := by decide +kernel
theorem dX5_jumper_54 : decode cX5_jumper 54 = .ok (.aload_n 3, 1) := by decide +kernel
theorem dX5_jumper_55 : decode cX5_jumper 55 = .ok (.aload_n 0, 1) := by decide +kernel
theorem dX5_jumper_56 : decode cX5_jumper 56 = .ok (.getfield 60, 3) := by decide +kernel
theorem dX5_jumper_59 : decode cX5_jumper 59 = .ok (.putfield 103, 3) := by decide +kernel
theorem dX5_jumper_62 : decode cX5_jumper 62 = .ok (.aload_n 0, 1) := by decide +kernel
theorem dX5_jumper_63 : decode cX5_jumper 63 = .ok (.dup, 1) := by decide +kernel
theorem dX5_jumper_64 : decode cX5_jumper 64 = .ok (.getfield 15, 3) := by decide +kernel
theorem dX5_jumper_67 : decode cX5_jumper 67 = .ok (.iconst 1, 1) := by decide +kernel
theorem dX5_jumper_68 : decode cX5_jumper 68 = .ok (.iadd, 1) := by decide +kernel
theorem dX5_jumper_69 : decode cX5_jumper 69 = .ok (.putfield 15, 3) := by decide +kernel
theorem dX5_jumper_72 : decode cX5_jumper 72 = .ok (.aload_n 0, 1) := by decide +kernel
theorem dX5_jumper_73 : decode cX5_jumper 73 = .ok (.getfield 15, 3) := by decide +kernel
theorem dX5_jumper_76 : decode cX5_jumper 76 = .ok (.iconst 1, 1) := by decide +kernel
theorem dX5_jumper_77 : decode cX5_jumper 77 = .ok (.isub, 1) := by decide +kernel
theorem dX5_jumper_78 : decode cX5_jumper 78 = .ok (.ireturn, 1) := by decide +kernel
theorem dX5_rig_0 : decode cX5_rig 0 = .ok (.iload_n 1, 1) := by decide +kernel
theorem dX5_rig_1 : decode cX5_rig 1 = .ok (.bipush 80, 2) := by decide +kernel
theorem dX5_rig_3 : decode cX5_rig 3 = .ok (.sipush 300, 3) := by decide +kernel
theorem dX5_rig_6 : decode cX5_rig 6 = .ok (.invokestatic 86, 3) := by decide +kernel
theorem dX5_rig_9 : decode cX5_rig 9 = .ok (.iload_n 2, 1) := by decide +kernel
theorem dX5_rig_10 : decode cX5_rig 10 = .ok (.iconst 0, 1) := by decide +kernel
theorem dX5_rig_11 : decode cX5_rig 11 = .ok (.bipush 60, 2) := by decide +kernel
theorem dX5_rig_13 : decode cX5_rig 13 = .ok (.invokestatic 86, 3) := by decide +kernel
theorem dX5_rig_16 : decode cX5_rig 16 = .ok (.aload_n 0, 1) := by decide +kernel
theorem dX5_rig_17 : decode cX5_rig 17 = .ok (.getfield 25, 3) := by decide +kernel
theorem dX5_rig_20 : decode cX5_rig 20 = .ok (.bipush 8, 2) := by decide +kernel
theorem dX5_rig_22 : decode cX5_rig 22 = .ok (.if_icmp .lt 13, 3) := by decide +kernel
theorem dX5_rig_25 : decode cX5_rig 25 = .ok (.new 90, 3) := by decide +kernel
theorem dX5_rig_28 : decode cX5_rig 28 = .ok (.dup, 1) := by decide +kernel
theorem dX5_rig_29 : decode cX5_rig 29 = .ok (.ldc 106, 2) := by decide +kernel
theorem dX5_rig_31 : decode cX5_rig 31 = .ok (.invokespecial 94, 3) := by decide +kernel
theorem dX5_rig_34 : decode cX5_rig 34 = .ok (.athrow, 1) := by decide +kernel
theorem dX5_rig_35 : decode cX5_rig 35 = .ok (.aload_n 0, 1) := by decide +kernel
theorem dX5_rig_36 : decode cX5_rig 36 = .ok (.getfield 21, 3) := by decide +kernel
theorem dX5_rig_39 : decode cX5_rig 39 = .ok (.aload_n 0, 1) := by decide +kernel
theorem dX5_rig_40 : decode cX5_rig 40 = .ok (.getfield 25, 3) := by decide +kernel
theorem dX5_rig_43 : decode cX5_rig 43 = .ok (.aaload, 1) := by decide +kernel
theorem dX5_rig_44 : decode cX5_rig 44 = .ok (.astore_n 3, 1) := by decide +kernel
theorem dX5_rig_45 : decode cX5_rig 45 = .ok (.aload_n 3, 1) := by decide +kernel
theorem dX5_rig_46 : decode cX5_rig 46 = .ok (.iload_n 1, 1) := by decide +kernel
theorem dX5_rig_47 : decode cX5_rig 47 = .ok (.putfield 108, 3) := by decide +kernel
theorem dX5_rig_50 : decode cX5_rig 50 = .ok (.aload_n 3, 1) := by decide +kernel
theorem dX5_rig_51 : decode cX5_rig 51 = .ok (.aload_n 0, 1) := by decide +kernel
theorem dX5_rig_52 : decode cX5_rig 52 = .ok (.getfield 60, 3) := by decide +kernel
theorem dX5_rig_55 : decode cX5_rig 55 = .ok (.iload_n 2, 1) := by decide +kernel
theorem dX5_rig_56 : decode cX5_rig 56 = .ok (.iadd, 1) := by decide +kernel
theorem dX5_rig_57 : decode cX5_rig 57 = .ok (.putfield 111, 3) := by decide +kernel
theorem dX5_rig_60 : decode cX5_rig 60 = .ok (.aload_n 0, 1) := by decide +kernel
theorem dX5_rig_61 : decode cX5_rig 61 = .ok (.dup, 1) := by decide +kernel
theorem dX5_rig_62 : decode cX5_rig 62 = .ok (.getfield 25, 3) := by decide +kernel
theorem dX5_rig_65 : decode cX5_rig 65 = .ok (.iconst 1, 1) := by decide +kernel
theorem dX5_rig_66 : decode cX5_rig 66 = .ok (.iadd, 1) := by decide +kernel
theorem dX5_rig_67 : decode cX5_rig 67 = .ok (.putfield 25, 3) := by decide +kernel
theorem dX5_rig_70 : decode cX5_rig 70 = .ok (.aload_n 0, 1) := by decide +kernel
theorem dX5_rig_71 : decode cX5_rig 71 = .ok (.getfield 25, 3) := by decide +kernel
theorem dX5_rig_74 : decode cX5_rig 74 = .ok (.iconst 1, 1) := by decide +kernel
theorem dX5_rig_75 : decode cX5_rig 75 = .ok (.isub, 1) := by decide +kernel
theorem dX5_rig_76 : decode cX5_rig 76 = .ok (.ireturn, 1) := by decide +kernel
theorem dX5_lend_0 : decode cX5_lend 0 = .ok (.aload_n 0, 1) := by decide +kernel
theorem dX5_lend_1 : decode cX5_lend 1 = .ok (.iload_n 1, 1) := by decide +kernel
theorem dX5_lend_2 : decode cX5_lend 2 = .ok (.invokevirtual 114, 3) := by decide +kernel
theorem dX5_lend_5 : decode cX5_lend 5 = .ok (.pop, 1) := by decide +kernel
theorem dX5_lend_6 : decode cX5_lend 6 = .ok (.aload_n 0, 1) := by decide +kernel
theorem dX5_lend_7 : decode cX5_lend 7 = .ok (.iload_n 2, 1) := by decide +kernel
theorem dX5_lend_8 : decode cX5_lend 8 = .ok (.invokevirtual 118, 3) := by decide +kernel
theorem dX5_lend_11 : decode cX5_lend 11 = .ok (.astore_n 3, 1) := by decide +kernel
theorem dX5_lend_12 : decode cX5_lend 12 = .ok (.aload_n 0, 1) := by decide +kernel
theorem dX5_lend_13 : decode cX5_lend 13 = .ok (.iload_n 1, 1) := by decide +kernel
theorem dX5_lend_14 : decode cX5_lend 14 = .ok (.invokevirtual 122, 3) := by decide +kernel
theorem dX5_lend_17 : decode cX5_lend 17 = .ok (.istore 4, 2) := by decide +kernel
theorem dX5_lend_19 : decode cX5_lend 19 = .ok (.aload_n 0, 1) := by decide +kernel
theorem dX5_lend_20 : decode cX5_lend 20 = .ok (.iload_n 2, 1) := by decide +kernel
theorem dX5_lend_21 : decode cX5_lend 21 = .ok (.invokevirtual 126, 3) := by decide +kernel
theorem dX5_lend_24 : decode cX5_lend 24 = .ok (.iconst (-1), 1) := by decide +kernel
theorem dX5_lend_25 : decode cX5_lend 25 = .ok (.if_icmp .ne 13, 3) := by decide +kernel
theorem dX5_lend_28 : decode cX5_lend 28 = .ok (.aload_n 0, 1) := by decide +kernel
theorem dX5_lend_29 : decode cX5_lend 29 = .ok (.iload 4, 2) := by decide +kernel
theorem dX5_lend_31 : decode cX5_lend 31 = .ok (.invokevirtual 126, 3) := by decide +kernel
theorem dX5_lend_34 : decode cX5_lend 34 = .ok (.iconst (-1), 1) := by decide +kernel
theorem dX5_lend_35 : decode cX5_lend 35 = .ok (.if_icmp .eq 13, 3) := by decide +kernel
theorem dX5_lend_38 : decode cX5_lend 38 = .ok (.new 90, 3) := by decide +kernel
theorem dX5_lend_41 : decode cX5_lend 41 = .ok (.dup, 1) := by decide +kernel
theorem dX5_lend_42 : decode cX5_lend 42 = .ok (.ldc 129, 2) := by decide +kernel
theorem dX5_lend_44 : decode cX5_lend 44 = .ok (.invokespecial 94, 3) := by decide +kernel
theorem dX5_lend_47 : decode cX5_lend 47 = .ok (.athrow, 1) := by decide +kernel
theorem dX5_lend_48 : decode cX5_lend 48 = .ok (.iload 4, 2) := by decide +kernel
theorem dX5_lend_50 : decode cX5_lend 50 = .ok (.iconst (-1), 1) := by decide +kernel
theorem dX5_lend_51 : decode cX5_lend 51 = .ok (.if_icmp .eq 13, 3) := by decide +kernel
theorem dX5_lend_54 : decode cX5_lend 54 = .ok (.aload_n 0, 1) := by decide +kernel
theorem dX5_lend_55 : decode cX5_lend 55 = .ok (.iload 4, 2) := by decide +kernel
theorem dX5_lend_57 : decode cX5_lend 57 = .ok (.invokevirtual 118, 3) := by decide +kernel
theorem dX5_lend_60 : decode cX5_lend 60 = .ok (.iconst (-1), 1) := by decide +kernel
theorem dX5_lend_61 : decode cX5_lend 61 = .ok (.putfield 131, 3) := by decide +kernel
theorem dX5_lend_64 : decode cX5_lend 64 = .ok (.aload_n 3, 1) := by decide +kernel
theorem dX5_lend_65 : decode cX5_lend 65 = .ok (.iload_n 1, 1) := by decide +kernel
theorem dX5_lend_66 : decode cX5_lend 66 = .ok (.putfield 131, 3) := by decide +kernel
theorem dX5_lend_69 : decode cX5_lend 69 = .ok (.iload 4, 2) := by decide +kernel
theorem dX5_lend_71 : decode cX5_lend 71 = .ok (.ireturn, 1) := by decide +kernel
theorem dX5_pack_0 : decode cX5_pack 0 = .ok (.aload_n 0, 1) := by decide +kernel
theorem dX5_pack_1 : decode cX5_pack 1 = .ok (.iload_n 1, 1) := by decide +kernel
theorem dX5_pack_2 : decode cX5_pack 2 = .ok (.invokevirtual 114, 3) := by decide +kernel
theorem dX5_pack_5 : decode cX5_pack 5 = .ok (.astore_n 3, 1) := by decide +kernel
theorem dX5_pack_6 : decode cX5_pack 6 = .ok (.aload_n 0, 1) := by decide +kernel
theorem dX5_pack_7 : decode cX5_pack 7 = .ok (.iload_n 2, 1) := by decide +kernel
theorem dX5_pack_8 : decode cX5_pack 8 = .ok (.invokevirtual 118, 3) := by decide +kernel
theorem dX5_pack_11 : decode cX5_pack 11 = .ok (.astore 4, 2) := by decide +kernel
theorem dX5_pack_13 : decode cX5_pack 13 = .ok (.aload_n 3, 1) := by decide +kernel
theorem dX5_pack_14 : decode cX5_pack 14 = .ok (.getfield 134, 3) := by decide +kernel
theorem dX5_pack_17 : decode cX5_pack 17 = .ok (.ifCond .eq 13, 3) := by decide +kernel
theorem dX5_pack_20 : decode cX5_pack 20 = .ok (.new 90, 3) := by decide +kernel
theorem dX5_pack_23 : decode cX5_pack 23 = .ok (.dup, 1) := by decide +kernel
theorem dX5_pack_24 : decode cX5_pack 24 = .ok (.ldc 137, 2) := by decide +kernel
theorem dX5_pack_26 : decode cX5_pack 26 = .ok (.invokespecial 94, 3) := by decide +kernel
theorem dX5_pack_29 : decode cX5_pack 29 = .ok (.athrow, 1) := by decide +kernel
theorem dX5_pack_30 : decode cX5_pack 30 = .ok (.aload_n 3, 1) := by decide +kernel
theorem dX5_pack_31 : decode cX5_pack 31 = .ok (.iconst 0, 1) := by decide +kernel
theorem dX5_pack_32 : decode cX5_pack 32 = .ok (.bipush 9, 2) := by decide +kernel
theorem dX5_pack_34 : decode cX5_pack 34 = .ok (.aload 4, 2) := by decide +kernel
theorem dX5_pack_36 : decode cX5_pack 36 = .ok (.getfield 139, 3) := by decide +kernel
theorem dX5_pack_39 : decode cX5_pack 39 = .ok (.isub, 1) := by decide +kernel
theorem dX5_pack_40 : decode cX5_pack 40 = .ok (.invokestatic 142, 3) := by decide +kernel
theorem dX5_pack_43 : decode cX5_pack 43 = .ok (.putfield 148, 3) := by decide +kernel
theorem dX5_pack_46 : decode cX5_pack 46 = .ok (.aload_n 3, 1) := by decide +kernel
theorem dX5_pack_47 : decode cX5_pack 47 = .ok (.iconst 1, 1) := by decide +kernel
theorem dX5_pack_48 : decode cX5_pack 48 = .ok (.putfield 134, 3) := by decide +kernel
theorem dX5_pack_51 : decode cX5_pack 51 = .ok (.aload 4, 2) := by decide +kernel
theorem dX5_pack_53 : decode cX5_pack 53 = .ok (.dup, 1) := by decide +kernel
theorem dX5_pack_54 : decode cX5_pack 54 = .ok (.getfield 139, 3) := by decide +kernel
theorem dX5_pack_57 : decode cX5_pack 57 = .ok (.iconst 1, 1) := by decide +kernel
theorem dX5_pack_58 : decode cX5_pack 58 = .ok (.iadd, 1) := by decide +kernel
theorem dX5_pack_59 : decode cX5_pack 59 = .ok (.putfield 139, 3) := by decide +kernel
theorem dX5_pack_62 : decode cX5_pack 62 = .ok (.aload_n 3, 1) := by decide +kernel
theorem dX5_pack_63 : decode cX5_pack 63 = .ok (.getfield 148, 3) := by decide +kernel
theorem dX5_pack_66 : decode cX5_pack 66 = .ok (.ireturn, 1) := by decide +kernel
theorem dX5_renew_0 : decode cX5_renew 0 = .ok (.aload_n 0, 1) := by decide +kernel
theorem dX5_renew_1 : decode cX5_renew 1 = .ok (.iload_n 1, 1) := by decide +kernel
theorem dX5_renew_2 : decode cX5_renew 2 = .ok (.invokevirtual 114, 3) := by decide +kernel
theorem dX5_renew_5 : decode cX5_renew 5 = .ok (.astore_n 2, 1) := by decide +kernel
theorem dX5_renew_6 : decode cX5_renew 6 = .ok (.aload_n 2, 1) := by decide +kernel
theorem dX5_renew_7 : decode cX5_renew 7 = .ok (.aload_n 0, 1) := by decide +kernel
theorem dX5_renew_8 : decode cX5_renew 8 = .ok (.getfield 60, 3) := by decide +kernel
theorem dX5_renew_11 : decode cX5_renew 11 = .ok (.bipush 60, 2) := by decide +kernel
theorem dX5_renew_13 : decode cX5_renew 13 = .ok (.iadd, 1) := by decide +kernel
theorem dX5_renew_14 : decode cX5_renew 14 = .ok (.putfield 111, 3) := by decide +kernel
theorem dX5_renew_17 : decode cX5_renew 17 = .ok (.aload_n 2, 1) := by decide +kernel
theorem dX5_renew_18 : decode cX5_renew 18 = .ok (.getfield 111, 3) := by decide +kernel
theorem dX5_renew_21 : decode cX5_renew 21 = .ok (.ireturn, 1) := by decide +kernel
theorem dX5_pass_0 : decode cX5_pass 0 = .ok (.iload_n 1, 1) := by decide +kernel
theorem dX5_pass_1 : decode cX5_pass 1 = .ok (.iconst 1, 1) := by decide +kernel
theorem dX5_pass_2 : decode cX5_pass 2 = .ok (.bipush 90, 2) := by decide +kernel
theorem dX5_pass_4 : decode cX5_pass 4 = .ok (.invokestatic 86, 3) := by decide +kernel
theorem dX5_pass_7 : decode cX5_pass 7 = .ok (.aload_n 0, 1) := by decide +kernel
theorem dX5_pass_8 : decode cX5_pass 8 = .ok (.getfield 60, 3) := by decide +kernel
theorem dX5_pass_11 : decode cX5_pass 11 = .ok (.iload_n 1, 1) := by decide +kernel
theorem dX5_pass_12 : decode cX5_pass 12 = .ok (.iadd, 1) := by decide +kernel
theorem dX5_pass_13 : decode cX5_pass 13 = .ok (.sipush 500, 3) := by decide +kernel
theorem dX5_pass_16 : decode cX5_pass 16 = .ok (.if_icmp .gt 10, 3) := by decide +kernel
theorem dX5_pass_19 : decode cX5_pass 19 = .ok (.aload_n 0, 1) := by decide +kernel
theorem dX5_pass_20 : decode cX5_pass 20 = .ok (.getfield 39, 3) := by decide +kernel
theorem dX5_pass_23 : decode cX5_pass 23 = .ok (.ifCond .le 13, 3) := by decide +kernel
theorem dX5_pass_26 : decode cX5_pass 26 = .ok (.new 90, 3) := by decide +kernel
theorem dX5_pass_29 : decode cX5_pass 29 = .ok (.dup, 1) := by decide +kernel
theorem dX5_pass_30 : decode cX5_pass 30 = .ok (.ldc 151, 2) := by decide +kernel
theorem dX5_pass_32 : decode cX5_pass 32 = .ok (.invokespecial 94, 3) := by decide +kernel
theorem dX5_pass_35 : decode cX5_pass 35 = .ok (.athrow, 1) := by decide +kernel
theorem dX5_pass_36 : decode cX5_pass 36 = .ok (.aload_n 0, 1) := by decide +kernel
theorem dX5_pass_37 : decode cX5_pass 37 = .ok (.dup, 1) := by decide +kernel
theorem dX5_pass_38 : decode cX5_pass 38 = .ok (.getfield 60, 3) := by decide +kernel
theorem dX5_pass_41 : decode cX5_pass 41 = .ok (.iload_n 1, 1) := by decide +kernel
theorem dX5_pass_42 : decode cX5_pass 42 = .ok (.iadd, 1) := by decide +kernel
theorem dX5_pass_43 : decode cX5_pass 43 = .ok (.putfield 60, 3) := by decide +kernel
theorem dX5_pass_46 : decode cX5_pass 46 = .ok (.iconst 0, 1) := by decide +kernel
theorem dX5_pass_47 : decode cX5_pass 47 = .ok (.istore_n 2, 1) := by decide +kernel
theorem dX5_pass_48 : decode cX5_pass 48 = .ok (.iload_n 2, 1) := by decide +kernel
theorem dX5_pass_49 : decode cX5_pass 49 = .ok (.aload_n 0, 1) := by decide +kernel
theorem dX5_pass_50 : decode cX5_pass 50 = .ok (.getfield 15, 3) := by decide +kernel
theorem dX5_pass_53 : decode cX5_pass 53 = .ok (.if_icmp .ge 18, 3) := by decide +kernel
theorem dX5_pass_56 : decode cX5_pass 56 = .ok (.aload_n 0, 1) := by decide +kernel
theorem dX5_pass_57 : decode cX5_pass 57 = .ok (.iload_n 2, 1) := by decide +kernel
theorem dX5_pass_58 : decode cX5_pass 58 = .ok (.invokevirtual 118, 3) := by decide +kernel
theorem dX5_pass_61 : decode cX5_pass 61 = .ok (.iconst 0, 1) := by decide +kernel
theorem dX5_pass_62 : decode cX5_pass 62 = .ok (.putfield 139, 3) := by decide +kernel
theorem dX5_pass_65 : decode cX5_pass 65 = .ok (.iinc 2 1, 3) := by decide +kernel
theorem dX5_pass_68 : decode cX5_pass 68 = .ok (.goto (-20), 3) := by decide +kernel
theorem dX5_pass_71 : decode cX5_pass 71 = .ok (.aload_n 0, 1) := by decide +kernel
theorem dX5_pass_72 : decode cX5_pass 72 = .ok (.getfield 60, 3) := by decide +kernel
theorem dX5_pass_75 : decode cX5_pass 75 = .ok (.ireturn, 1) := by decide +kernel
theorem dX5_wind_0 : decode cX5_wind 0 = .ok (.iload_n 1, 1) := by decide +kernel
theorem dX5_wind_1 : decode cX5_wind 1 = .ok (.invokestatic 153, 3) := by decide +kernel
theorem dX5_wind_4 : decode cX5_wind 4 = .ok (.iload_n 2, 1) := by decide +kernel
theorem dX5_wind_5 : decode cX5_wind 5 = .ok (.bipush (-20), 2) := by decide +kernel
theorem dX5_wind_7 : decode cX5_wind 7 = .ok (.bipush 20, 2) := by decide +kernel
theorem dX5_wind_9 : decode cX5_wind 9 = .ok (.invokestatic 86, 3) := by decide +kernel
theorem dX5_wind_12 : decode cX5_wind 12 = .ok (.iload_n 3, 1) := by decide +kernel
theorem dX5_wind_13 : decode cX5_wind 13 = .ok (.bipush (-20), 2) := by decide +kernel
theorem dX5_wind_15 : decode cX5_wind 15 = .ok (.bipush 20, 2) := by decide +kernel
theorem dX5_wind_17 : decode cX5_wind 17 = .ok (.invokestatic 86, 3) := by decide +kernel
theorem dX5_wind_20 : decode cX5_wind 20 = .ok (.aload_n 0, 1) := by decide +kernel
theorem dX5_wind_21 : decode cX5_wind 21 = .ok (.getfield 31, 3) := by decide +kernel
theorem dX5_wind_24 : decode cX5_wind 24 = .ok (.iload_n 1, 1) := by decide +kernel
theorem dX5_wind_25 : decode cX5_wind 25 = .ok (.iload_n 2, 1) := by decide +kernel
theorem dX5_wind_26 : decode cX5_wind 26 = .ok (.iload_n 3, 1) := by decide +kernel
theorem dX5_wind_27 : decode cX5_wind 27 = .ok (.invokevirtual 157, 3) := by decide +kernel
theorem dX5_wind_30 : decode cX5_wind 30 = .ok (.aload_n 0, 1) := by decide +kernel
theorem dX5_wind_31 : decode cX5_wind 31 = .ok (.getfield 31, 3) := by decide +kernel
theorem dX5_wind_34 : decode cX5_wind 34 = .ok (.invokevirtual 160, 3) := by decide +kernel
theorem dX5_wind_37 : decode cX5_wind 37 = .ok (.ireturn, 1) := by decide +kernel
theorem dX5_board_0 : decode cX5_board 0 = .ok (.aload_n 0, 1) := by decide +kernel
theorem dX5_board_1 : decode cX5_board 1 = .ok (.iload_n 1, 1) := by decide +kernel
theorem dX5_board_2 : decode cX5_board 2 = .ok (.invokevirtual 118, 3) := by decide +kernel
theorem dX5_board_5 : decode cX5_board 5 = .ok (.astore 4, 2) := by decide +kernel
theorem dX5_board_7 : decode cX5_board 7 = .ok (.iload_n 2, 1) := by decide +kernel
theorem dX5_board_8 : decode cX5_board 8 = .ok (.iconst 0, 1) := by decide +kernel
theorem dX5_board_9 : decode cX5_board 9 = .ok (.iconst 1, 1) := by decide +kernel
theorem dX5_board_10 : decode cX5_board 10 = .ok (.invokestatic 86, 3) := by decide +kernel
theorem dX5_board_13 : decode cX5_board 13 = .ok (.iload_n 3, 1) := by decide +kernel
theorem dX5_board_14 : decode cX5_board 14 = .ok (.aload 4, 2) := by decide +kernel
theorem dX5_board_16 : decode cX5_board 16 = .ok (.getfield 100, 3) := by decide +kernel
theorem dX5_board_19 : decode cX5_board 19 = .ok (.ifCond .ne 7, 3) := by decide +kernel
theorem dX5_board_22 : decode cX5_board 22 = .ok (.iconst 4, 1) := by decide +kernel
theorem dX5_board_23 : decode cX5_board 23 = .ok (.goto 4, 3) := by decide +kernel
theorem dX5_board_26 : decode cX5_board 26 = .ok (.iconst 2, 1) := by decide +kernel
theorem dX5_board_27 : decode cX5_board 27 = .ok (.bipush 6, 2) := by decide +kernel
theorem dX5_board_29 : decode cX5_board 29 = .ok (.invokestatic 86, 3) := by decide +kernel
theorem dX5_board_32 : decode cX5_board 32 = .ok (.aload_n 0, 1) := by decide +kernel
theorem dX5_board_33 : decode cX5_board 33 = .ok (.getfield 42, 3) := by decide +kernel
theorem dX5_board_36 : decode cX5_board 36 = .ok (.ifCond .ne 12, 3) := by decide +kernel
theorem dX5_board_39 : decode cX5_board 39 = .ok (.aload_n 0, 1) := by decide +kernel
theorem dX5_board_40 : decode cX5_board 40 = .ok (.getfield 39, 3) := by decide +kernel
theorem dX5_board_43 : decode cX5_board 43 = .ok (.bipush 6, 2) := by decide +kernel
theorem dX5_board_45 : decode cX5_board 45 = .ok (.if_icmp .lt 13, 3) := by decide +kernel
theorem dX5_board_48 : decode cX5_board 48 = .ok (.new 90, 3) := by decide +kernel
theorem dX5_board_51 : decode cX5_board 51 = .ok (.dup, 1) := by decide +kernel
theorem dX5_board_52 : decode cX5_board 52 = .ok (.ldc 164, 2) := by decide +kernel
theorem dX5_board_54 : decode cX5_board 54 = .ok (.invokespecial 94, 3) := by decide +kernel
theorem dX5_board_57 : decode cX5_board 57 = .ok (.athrow, 1) := by decide +kernel
theorem dX5_board_58 : decode cX5_board 58 = .ok (.aload_n 0, 1) := by decide +kernel
theorem dX5_board_59 : decode cX5_board 59 = .ok (.iload_n 1, 1) := by decide +kernel
theorem dX5_board_60 : decode cX5_board 60 = .ok (.invokevirtual 166, 3) := by decide +kernel
theorem dX5_board_63 : decode cX5_board 63 = .ok (.istore 5, 2) := by decide +kernel
theorem dX5_board_65 : decode cX5_board 65 = .ok (.iload 5, 2) := by decide +kernel
theorem dX5_board_67 : decode cX5_board 67 = .ok (.ifCond .eq 7, 3) := by decide +kernel
theorem dX5_board_70 : decode cX5_board 70 = .ok (.iload 5, 2) := by decide +kernel
theorem dX5_board_72 : decode cX5_board 72 = .ok (.ineg, 1) := by decide +kernel
theorem dX5_board_73 : decode cX5_board 73 = .ok (.ireturn, 1) := by decide +kernel
theorem dX5_board_74 : decode cX5_board 74 = .ok (.aload 4, 2) := by decide +kernel
theorem dX5_board_76 : decode cX5_board 76 = .ok (.iload_n 2, 1) := by decide +kernel
theorem dX5_board_77 : decode cX5_board 77 = .ok (.putfield 169, 3) := by decide +kernel
theorem dX5_board_80 : decode cX5_board 80 = .ok (.aload 4, 2) := by decide +kernel
theorem dX5_board_82 : decode cX5_board 82 = .ok (.iload_n 3, 1) := by decide +kernel
theorem dX5_board_83 : decode cX5_board 83 = .ok (.putfield 172, 3) := by decide +kernel
theorem dX5_board_86 : decode cX5_board 86 = .ok (.aload_n 0, 1) := by decide +kernel
theorem dX5_board_87 : decode cX5_board 87 = .ok (.iload_n 1, 1) := by decide +kernel
theorem dX5_board_88 : decode cX5_board 88 = .ok (.invokevirtual 175, 3) := by decide +kernel
theorem dX5_board_91 : decode cX5_board 91 = .ok (.aload_n 0, 1) := by decide +kernel
theorem dX5_board_92 : decode cX5_board 92 = .ok (.getfield 39, 3) := by decide +kernel
theorem dX5_board_95 : decode cX5_board 95 = .ok (.ireturn, 1) := by decide +kernel
theorem dX5_empty_0 : decode cX5_empty 0 = .ok (.aload_n 0, 1) := by decide +kernel
theorem dX5_empty_1 : decode cX5_empty 1 = .ok (.getfield 39, 3) := by decide +kernel
theorem dX5_empty_4 : decode cX5_empty 4 = .ok (.istore_n 1, 1) := by decide +kernel
theorem dX5_empty_5 : decode cX5_empty 5 = .ok (.aload_n 0, 1) := by decide +kernel
theorem dX5_empty_6 : decode cX5_empty 6 = .ok (.iconst 0, 1) := by decide +kernel
theorem dX5_empty_7 : decode cX5_empty 7 = .ok (.putfield 39, 3) := by decide +kernel
theorem dX5_empty_10 : decode cX5_empty 10 = .ok (.iload_n 1, 1) := by decide +kernel
theorem dX5_empty_11 : decode cX5_empty 11 = .ok (.ireturn, 1) := by decide +kernel
theorem dX5_fly_0 : decode cX5_fly 0 = .ok (.iload_n 1, 1) := by decide +kernel
theorem dX5_fly_1 : decode cX5_fly 1 = .ok (.sipush (-200), 3) := by decide +kernel
theorem dX5_fly_4 : decode cX5_fly 4 = .ok (.sipush 200, 3) := by decide +kernel
theorem dX5_fly_7 : decode cX5_fly 7 = .ok (.invokestatic 86, 3) := by decide +kernel
theorem dX5_fly_10 : decode cX5_fly 10 = .ok (.iload_n 2, 1) := by decide +kernel
theorem dX5_fly_11 : decode cX5_fly 11 = .ok (.iconst 1, 1) := by decide +kernel
theorem dX5_fly_12 : decode cX5_fly 12 = .ok (.bipush 9, 2) := by decide +kernel
theorem dX5_fly_14 : decode cX5_fly 14 = .ok (.invokestatic 86, 3) := by decide +kernel
theorem dX5_fly_17 : decode cX5_fly 17 = .ok (.aload_n 0, 1) := by decide +kernel
theorem dX5_fly_18 : decode cX5_fly 18 = .ok (.getfield 42, 3) := by decide +kernel
theorem dX5_fly_21 : decode cX5_fly 21 = .ok (.ifCond .ne 10, 3) := by decide +kernel
theorem dX5_fly_24 : decode cX5_fly 24 = .ok (.aload_n 0, 1) := by decide +kernel
theorem dX5_fly_25 : decode cX5_fly 25 = .ok (.getfield 39, 3) := by decide +kernel
theorem dX5_fly_28 : decode cX5_fly 28 = .ok (.ifCond .ne 13, 3) := by decide +kernel
theorem dX5_fly_31 : decode cX5_fly 31 = .ok (.new 90, 3) := by decide +kernel
theorem dX5_fly_34 : decode cX5_fly 34 = .ok (.dup, 1) := by decide +kernel
theorem dX5_fly_35 : decode cX5_fly 35 = .ok (.ldc 178, 2) := by decide +kernel
theorem dX5_fly_37 : decode cX5_fly 37 = .ok (.invokespecial 94, 3) := by decide +kernel
theorem dX5_fly_40 : decode cX5_fly 40 = .ok (.athrow, 1) := by decide +kernel
theorem dX5_fly_41 : decode cX5_fly 41 = .ok (.aload_n 0, 1) := by decide +kernel
theorem dX5_fly_42 : decode cX5_fly 42 = .ok (.invokevirtual 180, 3) := by decide +kernel
theorem dX5_fly_45 : decode cX5_fly 45 = .ok (.aload_n 0, 1) := by decide +kernel
theorem dX5_fly_46 : decode cX5_fly 46 = .ok (.invokevirtual 183, 3) := by decide +kernel
theorem dX5_fly_49 : decode cX5_fly 49 = .ok (.aload_n 0, 1) := by decide +kernel
theorem dX5_fly_50 : decode cX5_fly 50 = .ok (.getfield 49, 3) := by decide +kernel
theorem dX5_fly_53 : decode cX5_fly 53 = .ok (.iload_n 1, 1) := by decide +kernel
theorem dX5_fly_54 : decode cX5_fly 54 = .ok (.iload_n 2, 1) := by decide +kernel
theorem dX5_fly_55 : decode cX5_fly 55 = .ok (.aload_n 0, 1) := by decide +kernel
theorem dX5_fly_56 : decode cX5_fly 56 = .ok (.getfield 31, 3) := by decide +kernel
theorem dX5_fly_59 : decode cX5_fly 59 = .ok (.invokevirtual 186, 3) := by decide +kernel
theorem dX5_fly_62 : decode cX5_fly 62 = .ok (.aload_n 0, 1) := by decide +kernel
theorem dX5_fly_63 : decode cX5_fly 63 = .ok (.dup, 1) := by decide +kernel
theorem dX5_fly_64 : decode cX5_fly 64 = .ok (.getfield 78, 3) := by decide +kernel
theorem dX5_fly_67 : decode cX5_fly 67 = .ok (.aload_n 0, 1) := by decide +kernel
theorem dX5_fly_68 : decode cX5_fly 68 = .ok (.getfield 49, 3) := by decide +kernel
theorem dX5_fly_71 : decode cX5_fly 71 = .ok (.aload_n 0, 1) := by decide +kernel
theorem dX5_fly_72 : decode cX5_fly 72 = .ok (.getfield 31, 3) := by decide +kernel
theorem dX5_fly_75 : decode cX5_fly 75 = .ok (.invokevirtual 190, 3) := by decide +kernel
theorem dX5_fly_78 : decode cX5_fly 78 = .ok (.iadd, 1) := by decide +kernel
theorem dX5_fly_79 : decode cX5_fly 79 = .ok (.putfield 78, 3) := by decide +kernel
theorem dX5_fly_82 : decode cX5_fly 82 = .ok (.iconst 0, 1) := by decide +kernel
theorem dX5_fly_83 : decode cX5_fly 83 = .ok (.istore_n 3, 1) := by decide +kernel
theorem dX5_fly_84 : decode cX5_fly 84 = .ok (.iconst 0, 1) := by decide +kernel
theorem dX5_fly_85 : decode cX5_fly 85 = .ok (.istore 4, 2) := by decide +kernel
theorem dX5_fly_87 : decode cX5_fly 87 = .ok (.iload 4, 2) := by decide +kernel
theorem dX5_fly_89 : decode cX5_fly 89 = .ok (.aload_n 0, 1) := by decide +kernel
theorem dX5_fly_90 : decode cX5_fly 90 = .ok (.getfield 39, 3) := by decide +kernel
theorem dX5_fly_93 : decode cX5_fly 93 = .ok (.if_icmp .ge 35, 3) := by decide +kernel
theorem dX5_fly_96 : decode cX5_fly 96 = .ok (.iload_n 3, 1) := by decide +kernel
theorem dX5_fly_97 : decode cX5_fly 97 = .ok (.aload_n 0, 1) := by decide +kernel
theorem dX5_fly_98 : decode cX5_fly 98 = .ok (.aload_n 0, 1) := by decide +kernel
theorem dX5_fly_99 : decode cX5_fly 99 = .ok (.aload_n 0, 1) := by decide +kernel
theorem dX5_fly_100 : decode cX5_fly 100 = .ok (.iload 4, 2) := by decide +kernel
theorem dX5_fly_102 : decode cX5_fly 102 = .ok (.invokevirtual 194, 3) := by decide +kernel
theorem dX5_fly_105 : decode cX5_fly 105 = .ok (.invokevirtual 118, 3) := by decide +kernel
theorem dX5_fly_108 : decode cX5_fly 108 = .ok (.aload_n 0, 1) := by decide +kernel
theorem dX5_fly_109 : decode cX5_fly 109 = .ok (.getfield 49, 3) := by decide +kernel
theorem dX5_fly_112 : decode cX5_fly 112 = .ok (.iload 4, 2) := by decide +kernel
theorem dX5_fly_114 : decode cX5_fly 114 = .ok (.invokevirtual 197, 3) := by decide +kernel
theorem dX5_fly_117 : decode cX5_fly 117 = .ok (.invokevirtual 201, 3) := by decide +kernel
theorem dX5_fly_120 : decode cX5_fly 120 = .ok (.iadd, 1) := by decide +kernel
theorem dX5_fly_121 : decode cX5_fly 121 = .ok (.istore_n 3, 1) := by decide +kernel
theorem dX5_fly_122 : decode cX5_fly 122 = .ok (.iinc 4 1, 3) := by decide +kernel
theorem dX5_fly_125 : decode cX5_fly 125 = .ok (.goto (-38), 3) := by decide +kernel
theorem dX5_fly_128 : decode cX5_fly 128 = .ok (.aload_n 0, 1) := by decide +kernel
theorem dX5_fly_129 : decode cX5_fly 129 = .ok (.iconst 0, 1) := by decide +kernel
theorem dX5_fly_130 : decode cX5_fly 130 = .ok (.putfield 39, 3) := by decide +kernel
theorem dX5_fly_133 : decode cX5_fly 133 = .ok (.aload_n 0, 1) := by decide +kernel
theorem dX5_fly_134 : decode cX5_fly 134 = .ok (.dup, 1) := by decide +kernel
theorem dX5_fly_135 : decode cX5_fly 135 = .ok (.getfield 66, 3) := by decide +kernel
theorem dX5_fly_138 : decode cX5_fly 138 = .ok (.iconst 1, 1) := by decide +kernel
theorem dX5_fly_139 : decode cX5_fly 139 = .ok (.iadd, 1) := by decide +kernel
theorem dX5_fly_140 : decode cX5_fly 140 = .ok (.putfield 66, 3) := by decide +kernel
theorem dX5_fly_143 : decode cX5_fly 143 = .ok (.iload_n 3, 1) := by decide +kernel
theorem dX5_fly_144 : decode cX5_fly 144 = .ok (.ireturn, 1) := by decide +kernel
theorem dX5_hold_0 : decode cX5_hold 0 = .ok (.aload_n 0, 1) := by decide +kernel
theorem dX5_hold_1 : decode cX5_hold 1 = .ok (.getfield 42, 3) := by decide +kernel
theorem dX5_hold_4 : decode cX5_hold 4 = .ok (.istore_n 2, 1) := by decide +kernel
theorem dX5_hold_5 : decode cX5_hold 5 = .ok (.aload_n 0, 1) := by decide +kernel
theorem dX5_hold_6 : decode cX5_hold 6 = .ok (.iload_n 1, 1) := by decide +kernel
theorem dX5_hold_7 : decode cX5_hold 7 = .ok (.putfield 42, 3) := by decide +kernel
theorem dX5_hold_10 : decode cX5_hold 10 = .ok (.iload_n 2, 1) := by decide +kernel
theorem dX5_hold_11 : decode cX5_hold 11 = .ok (.ireturn, 1) := by decide +kernel
theorem dX5_gong_0 : decode cX5_gong 0 = .ok (.aload_n 0, 1) := by decide +kernel
theorem dX5_gong_1 : decode cX5_gong 1 = .ok (.dup, 1) := by decide +kernel
theorem dX5_gong_2 : decode cX5_gong 2 = .ok (.getfield 81, 3) := by decide +kernel
theorem dX5_gong_5 : decode cX5_gong 5 = .ok (.iconst 1, 1) := by decide +kernel
theorem dX5_gong_6 : decode cX5_gong 6 = .ok (.iadd, 1) := by decide +kernel
theorem dX5_gong_7 : decode cX5_gong 7 = .ok (.putfield 81, 3) := by decide +kernel
theorem dX5_gong_10 : decode cX5_gong 10 = .ok (.aload_n 0, 1) := by decide +kernel
theorem dX5_gong_11 : decode cX5_gong 11 = .ok (.getfield 81, 3) := by decide +kernel
theorem dX5_gong_14 : decode cX5_gong 14 = .ok (.ireturn, 1) := by decide +kernel
theorem dX5_ofJumper_0 : decode cX5_ofJumper 0 = .ok (.aload_n 0, 1) := by decide +kernel
theorem dX5_ofJumper_1 : decode cX5_ofJumper 1 = .ok (.iload_n 1, 1) := by decide +kernel
theorem dX5_ofJumper_2 : decode cX5_ofJumper 2 = .ok (.invokevirtual 118, 3) := by decide +kernel
theorem dX5_ofJumper_5 : decode cX5_ofJumper 5 = .ok (.astore_n 3, 1) := by decide +kernel
theorem dX5_ofJumper_6 : decode cX5_ofJumper 6 = .ok (.iload_n 2, 1) := by decide +kernel
theorem dX5_ofJumper_7 : decode cX5_ofJumper 7 = .ok (.tableswitch 95 0 8 #[49, 54, 59, 64, 69, 74, 79, 84, 90], 49) := by decide +kernel
theorem dX5_ofJumper_56 : decode cX5_ofJumper 56 = .ok (.aload_n 3, 1) := by decide +kernel
theorem dX5_ofJumper_57 : decode cX5_ofJumper 57 = .ok (.getfield 97, 3) := by decide +kernel
theorem dX5_ofJumper_60 : decode cX5_ofJumper 60 = .ok (.ireturn, 1) := by decide +kernel
theorem dX5_ofJumper_61 : decode cX5_ofJumper 61 = .ok (.aload_n 3, 1) := by decide +kernel
theorem dX5_ofJumper_62 : decode cX5_ofJumper 62 = .ok (.getfield 100, 3) := by decide +kernel
theorem dX5_ofJumper_65 : decode cX5_ofJumper 65 = .ok (.ireturn, 1) := by decide +kernel
theorem dX5_ofJumper_66 : decode cX5_ofJumper 66 = .ok (.aload_n 3, 1) := by decide +kernel
theorem dX5_ofJumper_67 : decode cX5_ofJumper 67 = .ok (.getfield 131, 3) := by decide +kernel
theorem dX5_ofJumper_70 : decode cX5_ofJumper 70 = .ok (.ireturn, 1) := by decide +kernel
theorem dX5_ofJumper_71 : decode cX5_ofJumper 71 = .ok (.aload_n 3, 1) := by decide +kernel
theorem dX5_ofJumper_72 : decode cX5_ofJumper 72 = .ok (.getfield 103, 3) := by decide +kernel
theorem dX5_ofJumper_75 : decode cX5_ofJumper 75 = .ok (.ireturn, 1) := by decide +kernel
theorem dX5_ofJumper_76 : decode cX5_ofJumper 76 = .ok (.aload_n 3, 1) := by decide +kernel
theorem dX5_ofJumper_77 : decode cX5_ofJumper 77 = .ok (.getfield 205, 3) := by decide +kernel
theorem dX5_ofJumper_80 : decode cX5_ofJumper 80 = .ok (.ireturn, 1) := by decide +kernel
theorem dX5_ofJumper_81 : decode cX5_ofJumper 81 = .ok (.aload_n 3, 1) := by decide +kernel
theorem dX5_ofJumper_82 : decode cX5_ofJumper 82 = .ok (.getfield 206, 3) := by decide +kernel
theorem dX5_ofJumper_85 : decode cX5_ofJumper 85 = .ok (.ireturn, 1) := by decide +kernel
theorem dX5_ofJumper_86 : decode cX5_ofJumper 86 = .ok (.aload_n 3, 1) := by decide +kernel
theorem dX5_ofJumper_87 : decode cX5_ofJumper 87 = .ok (.getfield 139, 3) := by decide +kernel
theorem dX5_ofJumper_90 : decode cX5_ofJumper 90 = .ok (.ireturn, 1) := by decide +kernel
theorem dX5_ofJumper_91 : decode cX5_ofJumper 91 = .ok (.aload_n 0, 1) := by decide +kernel
theorem dX5_ofJumper_92 : decode cX5_ofJumper 92 = .ok (.iload_n 1, 1) := by decide +kernel
theorem dX5_ofJumper_93 : decode cX5_ofJumper 93 = .ok (.invokevirtual 126, 3) := by decide +kernel
theorem dX5_ofJumper_96 : decode cX5_ofJumper 96 = .ok (.ireturn, 1) := by decide +kernel
theorem dX5_ofJumper_97 : decode cX5_ofJumper 97 = .ok (.aload_n 3, 1) := by decide +kernel
theorem dX5_ofJumper_98 : decode cX5_ofJumper 98 = .ok (.getfield 209, 3) := by decide +kernel
theorem dX5_ofJumper_101 : decode cX5_ofJumper 101 = .ok (.ireturn, 1) := by decide +kernel
theorem dX5_ofJumper_102 : decode cX5_ofJumper 102 = .ok (.new 210, 3) := by decide +kernel
theorem dX5_ofJumper_105 : decode cX5_ofJumper 105 = .ok (.dup, 1) := by decide +kernel
theorem dX5_ofJumper_106 : decode cX5_ofJumper 106 = .ok (.ldc 212, 2) := by decide +kernel
theorem dX5_ofJumper_108 : decode cX5_ofJumper 108 = .ok (.invokespecial 214, 3) := by decide +kernel
theorem dX5_ofJumper_111 : decode cX5_ofJumper 111 = .ok (.athrow, 1) := by decide +kernel
theorem dX5_loading_0 : decode cX5_loading 0 = .ok (.aload_n 0, 1) := by decide +kernel
theorem dX5_loading_1 : decode cX5_loading 1 = .ok (.aload_n 0, 1) := by decide +kernel
theorem dX5_loading_2 : decode cX5_loading 2 = .ok (.iload_n 1, 1) := by decide +kernel
theorem dX5_loading_3 : decode cX5_loading 3 = .ok (.invokevirtual 118, 3) := by decide +kernel
theorem dX5_loading_6 : decode cX5_loading 6 = .ok (.invokevirtual 215, 3) := by decide +kernel
theorem dX5_loading_9 : decode cX5_loading 9 = .ok (.f2d, 1) := by decide +kernel
theorem dX5_loading_10 : decode cX5_loading 10 = .ok (.dreturn, 1) := by decide +kernel
theorem dX5_landed_0 : decode cX5_landed 0 = .ok (.aload_n 0, 1) := by decide +kernel
theorem dX5_landed_1 : decode cX5_landed 1 = .ok (.iload_n 1, 1) := by decide +kernel
theorem dX5_landed_2 : decode cX5_landed 2 = .ok (.invokevirtual 118, 3) := by decide +kernel
theorem dX5_landed_5 : decode cX5_landed 5 = .ok (.astore_n 3, 1) := by decide +kernel
theorem dX5_landed_6 : decode cX5_landed 6 = .ok (.iload_n 2, 1) := by decide +kernel
theorem dX5_landed_7 : decode cX5_landed 7 = .ok (.ifCond .eq 10, 3) := by decide +kernel
theorem dX5_landed_10 : decode cX5_landed 10 = .ok (.aload_n 3, 1) := by decide +kernel
theorem dX5_landed_11 : decode cX5_landed 11 = .ok (.getfield 219, 3) := by decide +kernel
theorem dX5_landed_14 : decode cX5_landed 14 = .ok (.goto 7, 3) := by decide +kernel
theorem dX5_landed_17 : decode cX5_landed 17 = .ok (.aload_n 3, 1) := by decide +kernel
theorem dX5_landed_18 : decode cX5_landed 18 = .ok (.getfield 223, 3) := by decide +kernel
theorem dX5_landed_21 : decode cX5_landed 21 = .ok (.dreturn, 1) := by decide +kernel
theorem dX5_refuses_0 : decode cX5_refuses 0 = .ok (.aload_n 0, 1) := by decide +kernel
theorem dX5_refuses_1 : decode cX5_refuses 1 = .ok (.iload_n 1, 1) := by decide +kernel
theorem dX5_refuses_2 : decode cX5_refuses 2 = .ok (.invokevirtual 166, 3) := by decide +kernel
theorem dX5_refuses_5 : decode cX5_refuses 5 = .ok (.ireturn, 1) := by decide +kernel
theorem dX5_ofRig_0 : decode cX5_ofRig 0 = .ok (.aload_n 0, 1) := by decide +kernel
theorem dX5_ofRig_1 : decode cX5_ofRig 1 = .ok (.iload_n 1, 1) := by decide +kernel
theorem dX5_ofRig_2 : decode cX5_ofRig 2 = .ok (.invokevirtual 114, 3) := by decide +kernel
theorem dX5_ofRig_5 : decode cX5_ofRig 5 = .ok (.astore_n 3, 1) := by decide +kernel
theorem dX5_ofRig_6 : decode cX5_ofRig 6 = .ok (.iload_n 2, 1) := by decide +kernel
theorem dX5_ofRig_7 : decode cX5_ofRig 7 = .ok (.tableswitch 67 0 4 #[33, 38, 43, 48, 61], 33) := by decide +kernel
theorem dX5_ofRig_40 : decode cX5_ofRig 40 = .ok (.aload_n 3, 1) := by decide +kernel
theorem dX5_ofRig_41 : decode cX5_ofRig 41 = .ok (.getfield 108, 3) := by decide +kernel
theorem dX5_ofRig_44 : decode cX5_ofRig 44 = .ok (.ireturn, 1) := by decide +kernel
theorem dX5_ofRig_45 : decode cX5_ofRig 45 = .ok (.aload_n 3, 1) := by decide +kernel
theorem dX5_ofRig_46 : decode cX5_ofRig 46 = .ok (.getfield 111, 3) := by decide +kernel
theorem dX5_ofRig_49 : decode cX5_ofRig 49 = .ok (.ireturn, 1) := by decide +kernel
theorem dX5_ofRig_50 : decode cX5_ofRig 50 = .ok (.aload_n 3, 1) := by decide +kernel
theorem dX5_ofRig_51 : decode cX5_ofRig 51 = .ok (.getfield 148, 3) := by decide +kernel
theorem dX5_ofRig_54 : decode cX5_ofRig 54 = .ok (.ireturn, 1) := by decide +kernel
theorem dX5_ofRig_55 : decode cX5_ofRig 55 = .ok (.aload_n 3, 1) := by decide +kernel
theorem dX5_ofRig_56 : decode cX5_ofRig 56 = .ok (.getfield 134, 3) := by decide +kernel
theorem dX5_ofRig_59 : decode cX5_ofRig 59 = .ok (.ifCond .eq 7, 3) := by decide +kernel
theorem dX5_ofRig_62 : decode cX5_ofRig 62 = .ok (.iconst 1, 1) := by decide +kernel
theorem dX5_ofRig_63 : decode cX5_ofRig 63 = .ok (.goto 4, 3) := by decide +kernel
theorem dX5_ofRig_66 : decode cX5_ofRig 66 = .ok (.iconst 0, 1) := by decide +kernel
theorem dX5_ofRig_67 : decode cX5_ofRig 67 = .ok (.ireturn, 1) := by decide +kernel
theorem dX5_ofRig_68 : decode cX5_ofRig 68 = .ok (.aload_n 0, 1) := by decide +kernel
theorem dX5_ofRig_69 : decode cX5_ofRig 69 = .ok (.iload_n 1, 1) := by decide +kernel
theorem dX5_ofRig_70 : decode cX5_ofRig 70 = .ok (.invokevirtual 122, 3) := by decide +kernel
theorem dX5_ofRig_73 : decode cX5_ofRig 73 = .ok (.ireturn, 1) := by decide +kernel
theorem dX5_ofRig_74 : decode cX5_ofRig 74 = .ok (.new 210, 3) := by decide +kernel
theorem dX5_ofRig_77 : decode cX5_ofRig 77 = .ok (.dup, 1) := by decide +kernel
theorem dX5_ofRig_78 : decode cX5_ofRig 78 = .ok (.ldc 226, 2) := by decide +kernel
theorem dX5_ofRig_80 : decode cX5_ofRig 80 = .ok (.invokespecial 214, 3) := by decide +kernel
theorem dX5_ofRig_83 : decode cX5_ofRig 83 = .ok (.athrow, 1) := by decide +kernel
theorem dX5_wear_0 : decode cX5_wear 0 = .ok (.aload_n 0, 1) := by decide +kernel
theorem dX5_wear_1 : decode cX5_wear 1 = .ok (.iload_n 1, 1) := by decide +kernel
theorem dX5_wear_2 : decode cX5_wear 2 = .ok (.invokevirtual 114, 3) := by decide +kernel
theorem dX5_wear_5 : decode cX5_wear 5 = .ok (.getfield 228, 3) := by decide +kernel
theorem dX5_wear_8 : decode cX5_wear 8 = .ok (.f2d, 1) := by decide +kernel
theorem dX5_wear_9 : decode cX5_wear 9 = .ok (.dreturn, 1) := by decide +kernel
theorem dX5_ofWind_0 : decode cX5_ofWind 0 = .ok (.iload_n 1, 1) := by decide +kernel
theorem dX5_ofWind_1 : decode cX5_ofWind 1 = .ok (.invokestatic 153, 3) := by decide +kernel
theorem dX5_ofWind_4 : decode cX5_ofWind 4 = .ok (.iload_n 2, 1) := by decide +kernel
theorem dX5_ofWind_5 : decode cX5_ofWind 5 = .ok (.ifCond .eq 14, 3) := by decide +kernel
theorem dX5_ofWind_8 : decode cX5_ofWind 8 = .ok (.aload_n 0, 1) := by decide +kernel
theorem dX5_ofWind_9 : decode cX5_ofWind 9 = .ok (.getfield 31, 3) := by decide +kernel
theorem dX5_ofWind_12 : decode cX5_ofWind 12 = .ok (.iload_n 1, 1) := by decide +kernel
theorem dX5_ofWind_13 : decode cX5_ofWind 13 = .ok (.invokevirtual 232, 3) := by decide +kernel
theorem dX5_ofWind_16 : decode cX5_ofWind 16 = .ok (.goto 11, 3) := by decide +kernel
theorem dX5_ofWind_19 : decode cX5_ofWind 19 = .ok (.aload_n 0, 1) := by decide +kernel
theorem dX5_ofWind_20 : decode cX5_ofWind 20 = .ok (.getfield 31, 3) := by decide +kernel
theorem dX5_ofWind_23 : decode cX5_ofWind 23 = .ok (.iload_n 1, 1) := by decide +kernel
theorem dX5_ofWind_24 : decode cX5_ofWind 24 = .ok (.invokevirtual 235, 3) := by decide +kernel
theorem dX5_ofWind_27 : decode cX5_ofWind 27 = .ok (.ireturn, 1) := by decide +kernel
theorem dX5_many_0 : decode cX5_many 0 = .ok (.iload_n 1, 1) := by decide +kernel
theorem dX5_many_1 : decode cX5_many 1 = .ok (.tableswitch 143 0 12 #[67, 72, 77, 82, 90, 95, 100, 105, 110, 115, 120, 125, 138], 67) := by decide +kernel
theorem dX5_many_68 : decode cX5_many 68 = .ok (.aload_n 0, 1) := by decide +kernel
theorem dX5_many_69 : decode cX5_many 69 = .ok (.getfield 60, 3) := by decide +kernel
theorem dX5_many_72 : decode cX5_many 72 = .ok (.ireturn, 1) := by decide +kernel
theorem dX5_many_73 : decode cX5_many 73 = .ok (.aload_n 0, 1) := by decide +kernel
theorem dX5_many_74 : decode cX5_many 74 = .ok (.getfield 15, 3) := by decide +kernel
theorem dX5_many_77 : decode cX5_many 77 = .ok (.ireturn, 1) := by decide +kernel
theorem dX5_many_78 : decode cX5_many 78 = .ok (.aload_n 0, 1) := by decide +kernel
theorem dX5_many_79 : decode cX5_many 79 = .ok (.getfield 25, 3) := by decide +kernel
theorem dX5_many_82 : decode cX5_many 82 = .ok (.ireturn, 1) := by decide +kernel
theorem dX5_many_83 : decode cX5_many 83 = .ok (.aload_n 0, 1) := by decide +kernel
theorem dX5_many_84 : decode cX5_many 84 = .ok (.getfield 31, 3) := by decide +kernel
theorem dX5_many_87 : decode cX5_many 87 = .ok (.invokevirtual 160, 3) := by decide +kernel
theorem dX5_many_90 : decode cX5_many 90 = .ok (.ireturn, 1) := by decide +kernel
theorem dX5_many_91 : decode cX5_many 91 = .ok (.aload_n 0, 1) := by decide +kernel
theorem dX5_many_92 : decode cX5_many 92 = .ok (.getfield 39, 3) := by decide +kernel
theorem dX5_many_95 : decode cX5_many 95 = .ok (.ireturn, 1) := by decide +kernel
theorem dX5_many_96 : decode cX5_many 96 = .ok (.aload_n 0, 1) := by decide +kernel
theorem dX5_many_97 : decode cX5_many 97 = .ok (.getfield 63, 3) := by decide +kernel
theorem dX5_many_100 : decode cX5_many 100 = .ok (.ireturn, 1) := by decide +kernel
theorem dX5_many_101 : decode cX5_many 101 = .ok (.aload_n 0, 1) := by decide +kernel
theorem dX5_many_102 : decode cX5_many 102 = .ok (.getfield 66, 3) := by decide +kernel
theorem dX5_many_105 : decode cX5_many 105 = .ok (.ireturn, 1) := by decide +kernel
theorem dX5_many_106 : decode cX5_many 106 = .ok (.aload_n 0, 1) := by decide +kernel
theorem dX5_many_107 : decode cX5_many 107 = .ok (.getfield 69, 3) := by decide +kernel
theorem dX5_many_110 : decode cX5_many 110 = .ok (.ireturn, 1) := by decide +kernel
theorem dX5_many_111 : decode cX5_many 111 = .ok (.aload_n 0, 1) := by decide +kernel
theorem dX5_many_112 : decode cX5_many 112 = .ok (.getfield 72, 3) := by decide +kernel
theorem dX5_many_115 : decode cX5_many 115 = .ok (.ireturn, 1) := by decide +kernel
theorem dX5_many_116 : decode cX5_many 116 = .ok (.aload_n 0, 1) := by decide +kernel
theorem dX5_many_117 : decode cX5_many 117 = .ok (.getfield 75, 3) := by decide +kernel
theorem dX5_many_120 : decode cX5_many 120 = .ok (.ireturn, 1) := by decide +kernel
theorem dX5_many_121 : decode cX5_many 121 = .ok (.aload_n 0, 1) := by decide +kernel
theorem dX5_many_122 : decode cX5_many 122 = .ok (.getfield 78, 3) := by decide +kernel
theorem dX5_many_125 : decode cX5_many 125 = .ok (.ireturn, 1) := by decide +kernel
theorem dX5_many_126 : decode cX5_many 126 = .ok (.aload_n 0, 1) := by decide +kernel
theorem dX5_many_127 : decode cX5_many 127 = .ok (.getfield 42, 3) := by decide +kernel
theorem dX5_many_130 : decode cX5_many 130 = .ok (.ifCond .eq 7, 3) := by decide +kernel
theorem dX5_many_133 : decode cX5_many 133 = .ok (.iconst 1, 1) := by decide +kernel
theorem dX5_many_134 : decode cX5_many 134 = .ok (.goto 4, 3) := by decide +kernel
theorem dX5_many_137 : decode cX5_many 137 = .ok (.iconst 0, 1) := by decide +kernel
theorem dX5_many_138 : decode cX5_many 138 = .ok (.ireturn, 1) := by decide +kernel
theorem dX5_many_139 : decode cX5_many 139 = .ok (.aload_n 0, 1) := by decide +kernel
theorem dX5_many_140 : decode cX5_many 140 = .ok (.getfield 81, 3) := by decide +kernel
theorem dX5_many_143 : decode cX5_many 143 = .ok (.ireturn, 1) := by decide +kernel
theorem dX5_many_144 : decode cX5_many 144 = .ok (.new 210, 3) := by decide +kernel
theorem dX5_many_147 : decode cX5_many 147 = .ok (.dup, 1) := by decide +kernel
theorem dX5_many_148 : decode cX5_many 148 = .ok (.ldc 238, 2) := by decide +kernel
theorem dX5_many_150 : decode cX5_many 150 = .ok (.invokespecial 214, 3) := by decide +kernel
theorem dX5_many_153 : decode cX5_many 153 = .ok (.athrow, 1) := by decide +kernel
theorem dX5_order_0 : decode cX5_order 0 = .ok (.iload_n 1, 1) := by decide +kernel
theorem dX5_order_1 : decode cX5_order 1 = .ok (.ifCond .lt 17, 3) := by decide +kernel
theorem dX5_order_4 : decode cX5_order 4 = .ok (.iload_n 1, 1) := by decide +kernel
theorem dX5_order_5 : decode cX5_order 5 = .ok (.aload_n 0, 1) := by decide +kernel
theorem dX5_order_6 : decode cX5_order 6 = .ok (.getfield 39, 3) := by decide +kernel
theorem dX5_order_9 : decode cX5_order 9 = .ok (.if_icmp .ge 9, 3) := by decide +kernel
theorem dX5_order_12 : decode cX5_order 12 = .ok (.iload_n 1, 1) := by decide +kernel
theorem dX5_order_13 : decode cX5_order 13 = .ok (.bipush 6, 2) := by decide +kernel
theorem dX5_order_15 : decode cX5_order 15 = .ok (.if_icmp .lt 13, 3) := by decide +kernel
theorem dX5_order_18 : decode cX5_order 18 = .ok (.new 240, 3) := by decide +kernel
theorem dX5_order_21 : decode cX5_order 21 = .ok (.dup, 1) := by decide +kernel
theorem dX5_order_22 : decode cX5_order 22 = .ok (.ldc 242, 2) := by decide +kernel
theorem dX5_order_24 : decode cX5_order 24 = .ok (.invokespecial 244, 3) := by decide +kernel
theorem dX5_order_27 : decode cX5_order 27 = .ok (.athrow, 1) := by decide +kernel
theorem dX5_order_28 : decode cX5_order 28 = .ok (.aload_n 0, 1) := by decide +kernel
theorem dX5_order_29 : decode cX5_order 29 = .ok (.getfield 35, 3) := by decide +kernel
theorem dX5_order_32 : decode cX5_order 32 = .ok (.iload_n 1, 1) := by decide +kernel
theorem dX5_order_33 : decode cX5_order 33 = .ok (.iaload, 1) := by decide +kernel
theorem dX5_order_34 : decode cX5_order 34 = .ok (.ireturn, 1) := by decide +kernel
theorem dX5_wouldLand_0 : decode cX5_wouldLand 0 = .ok (.aload_n 0, 1) := by decide +kernel
theorem dX5_wouldLand_1 : decode cX5_wouldLand 1 = .ok (.iload_n 1, 1) := by decide +kernel
theorem dX5_wouldLand_2 : decode cX5_wouldLand 2 = .ok (.invokevirtual 118, 3) := by decide +kernel
theorem dX5_wouldLand_5 : decode cX5_wouldLand 5 = .ok (.astore 6, 2) := by decide +kernel
theorem dX5_wouldLand_7 : decode cX5_wouldLand 7 = .ok (.iload_n 2, 1) := by decide +kernel
theorem dX5_wouldLand_8 : decode cX5_wouldLand 8 = .ok (.iconst 0, 1) := by decide +kernel
theorem dX5_wouldLand_9 : decode cX5_wouldLand 9 = .ok (.iconst 1, 1) := by decide +kernel
theorem dX5_wouldLand_10 : decode cX5_wouldLand 10 = .ok (.invokestatic 86, 3) := by decide +kernel
theorem dX5_wouldLand_13 : decode cX5_wouldLand 13 = .ok (.iload_n 3, 1) := by decide +kernel
theorem dX5_wouldLand_14 : decode cX5_wouldLand 14 = .ok (.iconst 2, 1) := by decide +kernel
theorem dX5_wouldLand_15 : decode cX5_wouldLand 15 = .ok (.bipush 6, 2) := by decide +kernel
theorem dX5_wouldLand_17 : decode cX5_wouldLand 17 = .ok (.invokestatic 86, 3) := by decide +kernel
theorem dX5_wouldLand_20 : decode cX5_wouldLand 20 = .ok (.iload 4, 2) := by decide +kernel
theorem dX5_wouldLand_22 : decode cX5_wouldLand 22 = .ok (.sipush (-200), 3) := by decide +kernel
theorem dX5_wouldLand_25 : decode cX5_wouldLand 25 = .ok (.sipush 200, 3) := by decide +kernel
theorem dX5_wouldLand_28 : decode cX5_wouldLand 28 = .ok (.invokestatic 86, 3) := by decide +kernel
theorem dX5_wouldLand_31 : decode cX5_wouldLand 31 = .ok (.aload_n 0, 1) := by decide +kernel
theorem dX5_wouldLand_32 : decode cX5_wouldLand 32 = .ok (.aload 6, 2) := by decide +kernel
theorem dX5_wouldLand_34 : decode cX5_wouldLand 34 = .ok (.iload_n 2, 1) := by decide +kernel
theorem dX5_wouldLand_35 : decode cX5_wouldLand 35 = .ok (.iload_n 3, 1) := by decide +kernel
theorem dX5_wouldLand_36 : decode cX5_wouldLand 36 = .ok (.invokevirtual 245, 3) := by decide +kernel
theorem dX5_wouldLand_39 : decode cX5_wouldLand 39 = .ok (.aload_n 0, 1) := by decide +kernel
theorem dX5_wouldLand_40 : decode cX5_wouldLand 40 = .ok (.getfield 56, 3) := by decide +kernel
theorem dX5_wouldLand_43 : decode cX5_wouldLand 43 = .ok (.iload 4, 2) := by decide +kernel
theorem dX5_wouldLand_45 : decode cX5_wouldLand 45 = .ok (.i2d, 1) := by decide +kernel
theorem dX5_wouldLand_46 : decode cX5_wouldLand 46 = .ok (.iconst 0, 1) := by decide +kernel
theorem dX5_wouldLand_47 : decode cX5_wouldLand 47 = .ok (.invokevirtual 249, 3) := by decide +kernel
theorem dX5_wouldLand_50 : decode cX5_wouldLand 50 = .ok (.aload_n 0, 1) := by decide +kernel
theorem dX5_wouldLand_51 : decode cX5_wouldLand 51 = .ok (.getfield 56, 3) := by decide +kernel
theorem dX5_wouldLand_54 : decode cX5_wouldLand 54 = .ok (.aload_n 0, 1) := by decide +kernel
theorem dX5_wouldLand_55 : decode cX5_wouldLand 55 = .ok (.getfield 31, 3) := by decide +kernel
theorem dX5_wouldLand_58 : decode cX5_wouldLand 58 = .ok (.invokevirtual 252, 3) := by decide +kernel
theorem dX5_wouldLand_61 : decode cX5_wouldLand 61 = .ok (.pop, 1) := by decide +kernel
theorem dX5_wouldLand_62 : decode cX5_wouldLand 62 = .ok (.iload 5, 2) := by decide +kernel
theorem dX5_wouldLand_64 : decode cX5_wouldLand 64 = .ok (.ifCond .eq 13, 3) := by decide +kernel
theorem dX5_wouldLand_67 : decode cX5_wouldLand 67 = .ok (.aload_n 0, 1) := by decide +kernel
theorem dX5_wouldLand_68 : decode cX5_wouldLand 68 = .ok (.getfield 56, 3) := by decide +kernel
theorem dX5_wouldLand_71 : decode cX5_wouldLand 71 = .ok (.getfield 255, 3) := by decide +kernel
theorem dX5_wouldLand_74 : decode cX5_wouldLand 74 = .ok (.goto 10, 3) := by decide +kernel
theorem dX5_wouldLand_77 : decode cX5_wouldLand 77 = .ok (.aload_n 0, 1) := by decide +kernel
theorem dX5_wouldLand_78 : decode cX5_wouldLand 78 = .ok (.getfield 56, 3) := by decide +kernel
theorem dX5_wouldLand_81 : decode cX5_wouldLand 81 = .ok (.getfield 258, 3) := by decide +kernel
theorem dX5_wouldLand_84 : decode cX5_wouldLand 84 = .ok (.dreturn, 1) := by decide +kernel
theorem dX5_takes_0 : decode cX5_takes 0 = .ok (.aload_n 0, 1) := by decide +kernel
theorem dX5_takes_1 : decode cX5_takes 1 = .ok (.iload_n 1, 1) := by decide +kernel
theorem dX5_takes_2 : decode cX5_takes 2 = .ok (.invokevirtual 118, 3) := by decide +kernel
theorem dX5_takes_5 : decode cX5_takes 5 = .ok (.astore 4, 2) := by decide +kernel
theorem dX5_takes_7 : decode cX5_takes 7 = .ok (.iload_n 2, 1) := by decide +kernel
theorem dX5_takes_8 : decode cX5_takes 8 = .ok (.iconst 0, 1) := by decide +kernel
theorem dX5_takes_9 : decode cX5_takes 9 = .ok (.iconst 1, 1) := by decide +kernel
theorem dX5_takes_10 : decode cX5_takes 10 = .ok (.invokestatic 86, 3) := by decide +kernel
theorem dX5_takes_13 : decode cX5_takes 13 = .ok (.iload_n 3, 1) := by decide +kernel
theorem dX5_takes_14 : decode cX5_takes 14 = .ok (.iconst 2, 1) := by decide +kernel
theorem dX5_takes_15 : decode cX5_takes 15 = .ok (.bipush 6, 2) := by decide +kernel
theorem dX5_takes_17 : decode cX5_takes 17 = .ok (.invokestatic 86, 3) := by decide +kernel
theorem dX5_takes_20 : decode cX5_takes 20 = .ok (.aload_n 0, 1) := by decide +kernel
theorem dX5_takes_21 : decode cX5_takes 21 = .ok (.aload 4, 2) := by decide +kernel
theorem dX5_takes_23 : decode cX5_takes 23 = .ok (.iload_n 2, 1) := by decide +kernel
theorem dX5_takes_24 : decode cX5_takes 24 = .ok (.iload_n 3, 1) := by decide +kernel
theorem dX5_takes_25 : decode cX5_takes 25 = .ok (.invokevirtual 245, 3) := by decide +kernel
theorem dX5_takes_28 : decode cX5_takes 28 = .ok (.aload_n 0, 1) := by decide +kernel
theorem dX5_takes_29 : decode cX5_takes 29 = .ok (.getfield 56, 3) := by decide +kernel
theorem dX5_takes_32 : decode cX5_takes 32 = .ok (.dconst 0, 1) := by decide +kernel
theorem dX5_takes_33 : decode cX5_takes 33 = .ok (.iconst 0, 1) := by decide +kernel
theorem dX5_takes_34 : decode cX5_takes 34 = .ok (.invokevirtual 249, 3) := by decide +kernel
theorem dX5_takes_37 : decode cX5_takes 37 = .ok (.aload_n 0, 1) := by decide +kernel
theorem dX5_takes_38 : decode cX5_takes 38 = .ok (.getfield 56, 3) := by decide +kernel
theorem dX5_takes_41 : decode cX5_takes 41 = .ok (.aload_n 0, 1) := by decide +kernel
theorem dX5_takes_42 : decode cX5_takes 42 = .ok (.getfield 31, 3) := by decide +kernel
theorem dX5_takes_45 : decode cX5_takes 45 = .ok (.invokevirtual 252, 3) := by decide +kernel
theorem dX5_takes_48 : decode cX5_takes 48 = .ok (.ireturn, 1) := by decide +kernel
theorem dX5_spot_0 : decode cX5_spot 0 = .ok (.iload_n 1, 1) := by decide +kernel
theorem dX5_spot_1 : decode cX5_spot 1 = .ok (.iconst 1, 1) := by decide +kernel
theorem dX5_spot_2 : decode cX5_spot 2 = .ok (.bipush 9, 2) := by decide +kernel
theorem dX5_spot_4 : decode cX5_spot 4 = .ok (.invokestatic 86, 3) := by decide +kernel
theorem dX5_spot_7 : decode cX5_spot 7 = .ok (.aload_n 0, 1) := by decide +kernel
theorem dX5_spot_8 : decode cX5_spot 8 = .ok (.invokevirtual 180, 3) := by decide +kernel
theorem dX5_spot_11 : decode cX5_spot 11 = .ok (.iconst 0, 1) := by decide +kernel
theorem dX5_spot_12 : decode cX5_spot 12 = .ok (.istore_n 2, 1) := by decide +kernel
theorem dX5_spot_13 : decode cX5_spot 13 = .ok (.iconst (-1), 1) := by decide +kernel
theorem dX5_spot_14 : decode cX5_spot 14 = .ok (.istore_n 3, 1) := by decide +kernel
theorem dX5_spot_15 : decode cX5_spot 15 = .ok (.sipush (-200), 3) := by decide +kernel
theorem dX5_spot_18 : decode cX5_spot 18 = .ok (.istore 4, 2) := by decide +kernel
theorem dX5_spot_20 : decode cX5_spot 20 = .ok (.iload 4, 2) := by decide +kernel
theorem dX5_spot_22 : decode cX5_spot 22 = .ok (.sipush 200, 3) := by decide +kernel
theorem dX5_spot_25 : decode cX5_spot 25 = .ok (.if_icmp .gt 48, 3) := by decide +kernel
theorem dX5_spot_28 : decode cX5_spot 28 = .ok (.aload_n 0, 1) := by decide +kernel
theorem dX5_spot_29 : decode cX5_spot 29 = .ok (.iload 4, 2) := by decide +kernel
theorem dX5_spot_31 : decode cX5_spot 31 = .ok (.iload_n 1, 1) := by decide +kernel
theorem dX5_spot_32 : decode cX5_spot 32 = .ok (.invokevirtual 261, 3) := by decide +kernel
theorem dX5_spot_35 : decode cX5_spot 35 = .ok (.istore 5, 2) := by decide +kernel
theorem dX5_spot_37 : decode cX5_spot 37 = .ok (.iload 5, 2) := by decide +kernel
theorem dX5_spot_39 : decode cX5_spot 39 = .ok (.iload_n 3, 1) := by decide +kernel
theorem dX5_spot_40 : decode cX5_spot 40 = .ok (.if_icmp .gt 21, 3) := by decide +kernel
theorem dX5_spot_43 : decode cX5_spot 43 = .ok (.iload 5, 2) := by decide +kernel
theorem dX5_spot_45 : decode cX5_spot 45 = .ok (.iload_n 3, 1) := by decide +kernel
theorem dX5_spot_46 : decode cX5_spot 46 = .ok (.if_icmp .ne 21, 3) := by decide +kernel
theorem dX5_spot_49 : decode cX5_spot 49 = .ok (.iload 4, 2) := by decide +kernel
theorem dX5_spot_51 : decode cX5_spot 51 = .ok (.invokestatic 264, 3) := by decide +kernel
theorem dX5_spot_54 : decode cX5_spot 54 = .ok (.iload_n 2, 1) := by decide +kernel
theorem dX5_spot_55 : decode cX5_spot 55 = .ok (.invokestatic 264, 3) := by decide +kernel
theorem dX5_spot_58 : decode cX5_spot 58 = .ok (.if_icmp .ge 9, 3) := by decide +kernel
theorem dX5_spot_61 : decode cX5_spot 61 = .ok (.iload 5, 2) := by decide +kernel
theorem dX5_spot_63 : decode cX5_spot 63 = .ok (.istore_n 3, 1) := by decide +kernel
theorem dX5_spot_64 : decode cX5_spot 64 = .ok (.iload 4, 2) := by decide +kernel
theorem dX5_spot_66 : decode cX5_spot 66 = .ok (.istore_n 2, 1) := by decide +kernel
theorem dX5_spot_67 : decode cX5_spot 67 = .ok (.iinc 4 20, 3) := by decide +kernel
theorem dX5_spot_70 : decode cX5_spot 70 = .ok (.goto (-50), 3) := by decide +kernel
theorem dX5_spot_73 : decode cX5_spot 73 = .ok (.iload_n 2, 1) := by decide +kernel
theorem dX5_spot_74 : decode cX5_spot 74 = .ok (.ireturn, 1) := by decide +kernel
theorem dX5_wouldMeet_0 : decode cX5_wouldMeet 0 = .ok (.iload_n 1, 1) := by decide +kernel
theorem dX5_wouldMeet_1 : decode cX5_wouldMeet 1 = .ok (.iconst 1, 1) := by decide +kernel
theorem dX5_wouldMeet_2 : decode cX5_wouldMeet 2 = .ok (.bipush 9, 2) := by decide +kernel
theorem dX5_wouldMeet_4 : decode cX5_wouldMeet 4 = .ok (.invokestatic 86, 3) := by decide +kernel
theorem dX5_wouldMeet_7 : decode cX5_wouldMeet 7 = .ok (.iload_n 2, 1) := by decide +kernel
theorem dX5_wouldMeet_8 : decode cX5_wouldMeet 8 = .ok (.sipush (-200), 3) := by decide +kernel
theorem dX5_wouldMeet_11 : decode cX5_wouldMeet 11 = .ok (.sipush 200, 3) := by decide +kernel
theorem dX5_wouldMeet_14 : decode cX5_wouldMeet 14 = .ok (.invokestatic 86, 3) := by decide +kernel
theorem dX5_wouldMeet_17 : decode cX5_wouldMeet 17 = .ok (.aload_n 0, 1) := by decide +kernel
theorem dX5_wouldMeet_18 : decode cX5_wouldMeet 18 = .ok (.invokevirtual 180, 3) := by decide +kernel
theorem dX5_wouldMeet_21 : decode cX5_wouldMeet 21 = .ok (.aload_n 0, 1) := by decide +kernel
theorem dX5_wouldMeet_22 : decode cX5_wouldMeet 22 = .ok (.getfield 49, 3) := by decide +kernel
theorem dX5_wouldMeet_25 : decode cX5_wouldMeet 25 = .ok (.iload_n 2, 1) := by decide +kernel
theorem dX5_wouldMeet_26 : decode cX5_wouldMeet 26 = .ok (.iload_n 1, 1) := by decide +kernel
theorem dX5_wouldMeet_27 : decode cX5_wouldMeet 27 = .ok (.aload_n 0, 1) := by decide +kernel
theorem dX5_wouldMeet_28 : decode cX5_wouldMeet 28 = .ok (.getfield 31, 3) := by decide +kernel
theorem dX5_wouldMeet_31 : decode cX5_wouldMeet 31 = .ok (.invokevirtual 186, 3) := by decide +kernel
theorem dX5_wouldMeet_34 : decode cX5_wouldMeet 34 = .ok (.aload_n 0, 1) := by decide +kernel
theorem dX5_wouldMeet_35 : decode cX5_wouldMeet 35 = .ok (.getfield 49, 3) := by decide +kernel
theorem dX5_wouldMeet_38 : decode cX5_wouldMeet 38 = .ok (.aload_n 0, 1) := by decide +kernel
theorem dX5_wouldMeet_39 : decode cX5_wouldMeet 39 = .ok (.getfield 31, 3) := by decide +kernel
theorem dX5_wouldMeet_42 : decode cX5_wouldMeet 42 = .ok (.invokevirtual 190, 3) := by decide +kernel
theorem dX5_wouldMeet_45 : decode cX5_wouldMeet 45 = .ok (.ireturn, 1) := by decide +kernel
theorem dX5_best_0 : decode cX5_best 0 = .ok (.aload_n 0, 1) := by decide +kernel
theorem dX5_best_1 : decode cX5_best 1 = .ok (.iload_n 1, 1) := by decide +kernel
theorem dX5_best_2 : decode cX5_best 2 = .ok (.invokevirtual 118, 3) := by decide +kernel
theorem dX5_best_5 : decode cX5_best 5 = .ok (.astore_n 2, 1) := by decide +kernel
theorem dX5_best_6 : decode cX5_best 6 = .ok (.iconst (-1), 1) := by decide +kernel
theorem dX5_best_7 : decode cX5_best 7 = .ok (.istore_n 3, 1) := by decide +kernel
theorem dX5_best_8 : decode cX5_best 8 = .ok (.fconst 0, 1) := by decide +kernel
theorem dX5_best_9 : decode cX5_best 9 = .ok (.fstore 4, 2) := by decide +kernel
theorem dX5_best_11 : decode cX5_best 11 = .ok (.iconst 0, 1) := by decide +kernel
theorem dX5_best_12 : decode cX5_best 12 = .ok (.istore 5, 2) := by decide +kernel
theorem dX5_best_14 : decode cX5_best 14 = .ok (.iload 5, 2) := by decide +kernel
theorem dX5_best_16 : decode cX5_best 16 = .ok (.aload_n 0, 1) := by decide +kernel
theorem dX5_best_17 : decode cX5_best 17 = .ok (.getfield 25, 3) := by decide +kernel
theorem dX5_best_20 : decode cX5_best 20 = .ok (.if_icmp .ge 66, 3) := by decide +kernel
theorem dX5_best_23 : decode cX5_best 23 = .ok (.aload_n 0, 1) := by decide +kernel
theorem dX5_best_24 : decode cX5_best 24 = .ok (.iload 5, 2) := by decide +kernel
theorem dX5_best_26 : decode cX5_best 26 = .ok (.invokevirtual 122, 3) := by decide +kernel
theorem dX5_best_29 : decode cX5_best 29 = .ok (.istore 6, 2) := by decide +kernel
theorem dX5_best_31 : decode cX5_best 31 = .ok (.aload_n 2, 1) := by decide +kernel
theorem dX5_best_32 : decode cX5_best 32 = .ok (.aload_n 0, 1) := by decide +kernel
theorem dX5_best_33 : decode cX5_best 33 = .ok (.iload 5, 2) := by decide +kernel
theorem dX5_best_35 : decode cX5_best 35 = .ok (.invokevirtual 114, 3) := by decide +kernel
theorem dX5_best_38 : decode cX5_best 38 = .ok (.invokestatic 267, 3) := by decide +kernel
theorem dX5_best_41 : decode cX5_best 41 = .ok (.fstore 7, 2) := by decide +kernel
theorem dX5_best_43 : decode cX5_best 43 = .ok (.iload 6, 2) := by decide +kernel
theorem dX5_best_45 : decode cX5_best 45 = .ok (.iconst (-1), 1) := by decide +kernel
theorem dX5_best_46 : decode cX5_best 46 = .ok (.if_icmp .eq 9, 3) := by decide +kernel
theorem dX5_best_49 : decode cX5_best 49 = .ok (.iload 6, 2) := by decide +kernel
theorem dX5_best_51 : decode cX5_best 51 = .ok (.iload_n 1, 1) := by decide +kernel
theorem dX5_best_52 : decode cX5_best 52 = .ok (.if_icmp .ne 28, 3) := by decide +kernel
theorem dX5_best_55 : decode cX5_best 55 = .ok (.aload_n 0, 1) := by decide +kernel
theorem dX5_best_56 : decode cX5_best 56 = .ok (.aload_n 2, 1) := by decide +kernel
theorem dX5_best_57 : decode cX5_best 57 = .ok (.fload 7, 2) := by decide +kernel
theorem dX5_best_59 : decode cX5_best 59 = .ok (.invokevirtual 271, 3) := by decide +kernel
theorem dX5_best_62 : decode cX5_best 62 = .ok (.ifCond .eq 18, 3) := by decide +kernel
theorem dX5_best_65 : decode cX5_best 65 = .ok (.fload 7, 2) := by decide +kernel
theorem dX5_best_67 : decode cX5_best 67 = .ok (.fload 4, 2) := by decide +kernel
theorem dX5_best_69 : decode cX5_best 69 = .ok (.fcmp .l, 1) := by decide +kernel
theorem dX5_best_70 : decode cX5_best 70 = .ok (.ifCond .le 10, 3) := by decide +kernel
theorem dX5_best_73 : decode cX5_best 73 = .ok (.iload 5, 2) := by decide +kernel
theorem dX5_best_75 : decode cX5_best 75 = .ok (.istore_n 3, 1) := by decide +kernel
theorem dX5_best_76 : decode cX5_best 76 = .ok (.fload 7, 2) := by decide +kernel
theorem dX5_best_78 : decode cX5_best 78 = .ok (.fstore 4, 2) := by decide +kernel
theorem dX5_best_80 : decode cX5_best 80 = .ok (.iinc 5 1, 3) := by decide +kernel
theorem dX5_best_83 : decode cX5_best 83 = .ok (.goto (-69), 3) := by decide +kernel
theorem dX5_best_86 : decode cX5_best 86 = .ok (.iload_n 3, 1) := by decide +kernel
theorem dX5_best_87 : decode cX5_best 87 = .ok (.ireturn, 1) := by decide +kernel
theorem dX5_digest_0 : decode cX5_digest 0 = .ok (.ldc2_w 275, 3) := by decide +kernel
theorem dX5_digest_3 : decode cX5_digest 3 = .ok (.lstore_n 1, 1) := by decide +kernel
theorem dX5_digest_4 : decode cX5_digest 4 = .ok (.iconst 0, 1) := by decide +kernel
theorem dX5_digest_5 : decode cX5_digest 5 = .ok (.istore_n 3, 1) := by decide +kernel
theorem dX5_digest_6 : decode cX5_digest 6 = .ok (.iload_n 3, 1) := by decide +kernel
theorem dX5_digest_7 : decode cX5_digest 7 = .ok (.bipush 12, 2) := by decide +kernel
theorem dX5_digest_9 : decode cX5_digest 9 = .ok (.if_icmp .gt 22, 3) := by decide +kernel
theorem dX5_digest_12 : decode cX5_digest 12 = .ok (.lload_n 1, 1) := by decide +kernel
theorem dX5_digest_13 : decode cX5_digest 13 = .ok (.ldc2_w 277, 3) := by decide +kernel
theorem dX5_digest_16 : decode cX5_digest 16 = .ok (.lmul, 1) := by decide +kernel
theorem dX5_digest_17 : decode cX5_digest 17 = .ok (.aload_n 0, 1) := by decide +kernel
theorem dX5_digest_18 : decode cX5_digest 18 = .ok (.iload_n 3, 1) := by decide +kernel
theorem dX5_digest_19 : decode cX5_digest 19 = .ok (.invokevirtual 279, 3) := by decide +kernel
theorem dX5_digest_22 : decode cX5_digest 22 = .ok (.i2l, 1) := by decide +kernel
theorem dX5_digest_23 : decode cX5_digest 23 = .ok (.ladd, 1) := by decide +kernel
theorem dX5_digest_24 : decode cX5_digest 24 = .ok (.lstore_n 1, 1) := by decide +kernel
theorem dX5_digest_25 : decode cX5_digest 25 = .ok (.iinc 3 1, 3) := by decide +kernel
theorem dX5_digest_28 : decode cX5_digest 28 = .ok (.goto (-22), 3) := by decide +kernel
theorem dX5_digest_31 : decode cX5_digest 31 = .ok (.iconst 0, 1) := by decide +kernel
theorem dX5_digest_32 : decode cX5_digest 32 = .ok (.istore_n 3, 1) := by decide +kernel
theorem dX5_digest_33 : decode cX5_digest 33 = .ok (.iload_n 3, 1) := by decide +kernel
theorem dX5_digest_34 : decode cX5_digest 34 = .ok (.aload_n 0, 1) := by decide +kernel
theorem dX5_digest_35 : decode cX5_digest 35 = .ok (.getfield 15, 3) := by decide +kernel
theorem dX5_digest_38 : decode cX5_digest 38 = .ok (.if_icmp .ge 16, 3) := by decide +kernel
theorem dX5_digest_41 : decode cX5_digest 41 = .ok (.aload_n 0, 1) := by decide +kernel
theorem dX5_digest_42 : decode cX5_digest 42 = .ok (.lload_n 1, 1) := by decide +kernel
theorem dX5_digest_43 : decode cX5_digest 43 = .ok (.iload_n 3, 1) := by decide +kernel
theorem dX5_digest_44 : decode cX5_digest 44 = .ok (.invokevirtual 282, 3) := by decide +kernel
theorem dX5_digest_47 : decode cX5_digest 47 = .ok (.lstore_n 1, 1) := by decide +kernel
theorem dX5_digest_48 : decode cX5_digest 48 = .ok (.iinc 3 1, 3) := by decide +kernel
theorem dX5_digest_51 : decode cX5_digest 51 = .ok (.goto (-18), 3) := by decide +kernel
theorem dX5_digest_54 : decode cX5_digest 54 = .ok (.iconst 0, 1) := by decide +kernel
theorem dX5_digest_55 : decode cX5_digest 55 = .ok (.istore_n 3, 1) := by decide +kernel
theorem dX5_digest_56 : decode cX5_digest 56 = .ok (.iload_n 3, 1) := by decide +kernel
theorem dX5_digest_57 : decode cX5_digest 57 = .ok (.aload_n 0, 1) := by decide +kernel
theorem dX5_digest_58 : decode cX5_digest 58 = .ok (.getfield 25, 3) := by decide +kernel
theorem dX5_digest_61 : decode cX5_digest 61 = .ok (.if_icmp .ge 16, 3) := by decide +kernel
theorem dX5_digest_64 : decode cX5_digest 64 = .ok (.aload_n 0, 1) := by decide +kernel
theorem dX5_digest_65 : decode cX5_digest 65 = .ok (.lload_n 1, 1) := by decide +kernel
theorem dX5_digest_66 : decode cX5_digest 66 = .ok (.iload_n 3, 1) := by decide +kernel
theorem dX5_digest_67 : decode cX5_digest 67 = .ok (.invokevirtual 286, 3) := by decide +kernel
theorem dX5_digest_70 : decode cX5_digest 70 = .ok (.lstore_n 1, 1) := by decide +kernel
theorem dX5_digest_71 : decode cX5_digest 71 = .ok (.iinc 3 1, 3) := by decide +kernel
theorem dX5_digest_74 : decode cX5_digest 74 = .ok (.goto (-18), 3) := by decide +kernel
theorem dX5_digest_77 : decode cX5_digest 77 = .ok (.iconst 0, 1) := by decide +kernel
theorem dX5_digest_78 : decode cX5_digest 78 = .ok (.istore_n 3, 1) := by decide +kernel
theorem dX5_digest_79 : decode cX5_digest 79 = .ok (.iload_n 3, 1) := by decide +kernel
theorem dX5_digest_80 : decode cX5_digest 80 = .ok (.bipush 10, 2) := by decide +kernel
theorem dX5_digest_82 : decode cX5_digest 82 = .ok (.if_icmp .ge 37, 3) := by decide +kernel
theorem dX5_digest_85 : decode cX5_digest 85 = .ok (.lload_n 1, 1) := by decide +kernel
theorem dX5_digest_86 : decode cX5_digest 86 = .ok (.ldc2_w 277, 3) := by decide +kernel
theorem dX5_digest_89 : decode cX5_digest 89 = .ok (.lmul, 1) := by decide +kernel
theorem dX5_digest_90 : decode cX5_digest 90 = .ok (.aload_n 0, 1) := by decide +kernel
theorem dX5_digest_91 : decode cX5_digest 91 = .ok (.iload_n 3, 1) := by decide +kernel
theorem dX5_digest_92 : decode cX5_digest 92 = .ok (.iconst 0, 1) := by decide +kernel
theorem dX5_digest_93 : decode cX5_digest 93 = .ok (.invokevirtual 289, 3) := by decide +kernel
theorem dX5_digest_96 : decode cX5_digest 96 = .ok (.i2l, 1) := by decide +kernel
theorem dX5_digest_97 : decode cX5_digest 97 = .ok (.ladd, 1) := by decide +kernel
theorem dX5_digest_98 : decode cX5_digest 98 = .ok (.lstore_n 1, 1) := by decide +kernel
theorem dX5_digest_99 : decode cX5_digest 99 = .ok (.lload_n 1, 1) := by decide +kernel
theorem dX5_digest_100 : decode cX5_digest 100 = .ok (.ldc2_w 277, 3) := by decide +kernel
theorem dX5_digest_103 : decode cX5_digest 103 = .ok (.lmul, 1) := by decide +kernel
theorem dX5_digest_104 : decode cX5_digest 104 = .ok (.aload_n 0, 1) := by decide +kernel
theorem dX5_digest_105 : decode cX5_digest 105 = .ok (.iload_n 3, 1) := by decide +kernel
theorem dX5_digest_106 : decode cX5_digest 106 = .ok (.iconst 1, 1) := by decide +kernel
theorem dX5_digest_107 : decode cX5_digest 107 = .ok (.invokevirtual 289, 3) := by decide +kernel
theorem dX5_digest_110 : decode cX5_digest 110 = .ok (.i2l, 1) := by decide +kernel
theorem dX5_digest_111 : decode cX5_digest 111 = .ok (.ladd, 1) := by decide +kernel
theorem dX5_digest_112 : decode cX5_digest 112 = .ok (.lstore_n 1, 1) := by decide +kernel
theorem dX5_digest_113 : decode cX5_digest 113 = .ok (.iinc 3 1, 3) := by decide +kernel
theorem dX5_digest_116 : decode cX5_digest 116 = .ok (.goto (-37), 3) := by decide +kernel
theorem dX5_digest_119 : decode cX5_digest 119 = .ok (.lload_n 1, 1) := by decide +kernel
theorem dX5_digest_120 : decode cX5_digest 120 = .ok (.ldc2_w 277, 3) := by decide +kernel
theorem dX5_digest_123 : decode cX5_digest 123 = .ok (.lmul, 1) := by decide +kernel
theorem dX5_digest_124 : decode cX5_digest 124 = .ok (.aload_n 0, 1) := by decide +kernel
theorem dX5_digest_125 : decode cX5_digest 125 = .ok (.iconst 3, 1) := by decide +kernel
theorem dX5_digest_126 : decode cX5_digest 126 = .ok (.invokevirtual 293, 3) := by decide +kernel
theorem dX5_digest_129 : decode cX5_digest 129 = .ok (.i2l, 1) := by decide +kernel
theorem dX5_digest_130 : decode cX5_digest 130 = .ok (.ladd, 1) := by decide +kernel
theorem dX5_digest_131 : decode cX5_digest 131 = .ok (.lstore_n 1, 1) := by decide +kernel
theorem dX5_digest_132 : decode cX5_digest 132 = .ok (.lload_n 1, 1) := by decide +kernel
theorem dX5_digest_133 : decode cX5_digest 133 = .ok (.ldc2_w 277, 3) := by decide +kernel
theorem dX5_digest_136 : decode cX5_digest 136 = .ok (.lmul, 1) := by decide +kernel
theorem dX5_digest_137 : decode cX5_digest 137 = .ok (.aload_n 0, 1) := by decide +kernel
theorem dX5_digest_138 : decode cX5_digest 138 = .ok (.iconst 3, 1) := by decide +kernel
theorem dX5_digest_139 : decode cX5_digest 139 = .ok (.iconst 0, 1) := by decide +kernel
theorem dX5_digest_140 : decode cX5_digest 140 = .ok (.invokevirtual 296, 3) := by decide +kernel
theorem dX5_digest_143 : decode cX5_digest 143 = .ok (.i2l, 1) := by decide +kernel
theorem dX5_digest_144 : decode cX5_digest 144 = .ok (.ladd, 1) := by decide +kernel
theorem dX5_digest_145 : decode cX5_digest 145 = .ok (.lreturn, 1) := by decide +kernel
theorem dX5_digestOfJumper_0 : decode cX5_digestOfJumper 0 = .ok (.lload_n 1, 1) := by decide +kernel
theorem dX5_digestOfJumper_1 : decode cX5_digestOfJumper 1 = .ok (.lstore 4, 2) := by decide +kernel
theorem dX5_digestOfJumper_3 : decode cX5_digestOfJumper 3 = .ok (.iconst 0, 1) := by decide +kernel
theorem dX5_digestOfJumper_4 : decode cX5_digestOfJumper 4 = .ok (.istore 6, 2) := by decide +kernel
theorem dX5_digestOfJumper_6 : decode cX5_digestOfJumper 6 = .ok (.iload 6, 2) := by decide +kernel
theorem dX5_digestOfJumper_8 : decode cX5_digestOfJumper 8 = .ok (.bipush 8, 2) := by decide +kernel
theorem dX5_digestOfJumper_10 : decode cX5_digestOfJumper 10 = .ok (.if_icmp .gt 26, 3) := by decide +kernel
theorem dX5_digestOfJumper_13 : decode cX5_digestOfJumper 13 = .ok (.lload 4, 2) := by decide +kernel
theorem dX5_digestOfJumper_15 : decode cX5_digestOfJumper 15 = .ok (.ldc2_w 277, 3) := by decide +kernel
theorem dX5_digestOfJumper_18 : decode cX5_digestOfJumper 18 = .ok (.lmul, 1) := by decide +kernel
theorem dX5_digestOfJumper_19 : decode cX5_digestOfJumper 19 = .ok (.aload_n 0, 1) := by decide +kernel
theorem dX5_digestOfJumper_20 : decode cX5_digestOfJumper 20 = .ok (.iload_n 3, 1) := by decide +kernel
theorem dX5_digestOfJumper_21 : decode cX5_digestOfJumper 21 = .ok (.iload 6, 2) := by decide +kernel
theorem dX5_digestOfJumper_23 : decode cX5_digestOfJumper 23 = .ok (.invokevirtual 299, 3) := by decide +kernel
theorem dX5_digestOfJumper_26 : decode cX5_digestOfJumper 26 = .ok (.i2l, 1) := by decide +kernel
theorem dX5_digestOfJumper_27 : decode cX5_digestOfJumper 27 = .ok (.ladd, 1) := by decide +kernel
theorem dX5_digestOfJumper_28 : decode cX5_digestOfJumper 28 = .ok (.lstore 4, 2) := by decide +kernel
theorem dX5_digestOfJumper_30 : decode cX5_digestOfJumper 30 = .ok (.iinc 6 1, 3) := by decide +kernel
theorem dX5_digestOfJumper_33 : decode cX5_digestOfJumper 33 = .ok (.goto (-27), 3) := by decide +kernel
theorem dX5_digestOfJumper_36 : decode cX5_digestOfJumper 36 = .ok (.lload 4, 2) := by decide +kernel
theorem dX5_digestOfJumper_38 : decode cX5_digestOfJumper 38 = .ok (.ldc2_w 277, 3) := by decide +kernel
theorem dX5_digestOfJumper_41 : decode cX5_digestOfJumper 41 = .ok (.lmul, 1) := by decide +kernel
theorem dX5_digestOfJumper_42 : decode cX5_digestOfJumper 42 = .ok (.ldc2_w 302, 3) := by decide +kernel
theorem dX5_digestOfJumper_45 : decode cX5_digestOfJumper 45 = .ok (.aload_n 0, 1) := by decide +kernel
theorem dX5_digestOfJumper_46 : decode cX5_digestOfJumper 46 = .ok (.iload_n 3, 1) := by decide +kernel
theorem dX5_digestOfJumper_47 : decode cX5_digestOfJumper 47 = .ok (.iconst 0, 1) := by decide +kernel
theorem dX5_digestOfJumper_48 : decode cX5_digestOfJumper 48 = .ok (.invokevirtual 304, 3) := by decide +kernel
theorem dX5_digestOfJumper_51 : decode cX5_digestOfJumper 51 = .ok (.dmul, 1) := by decide +kernel
theorem dX5_digestOfJumper_52 : decode cX5_digestOfJumper 52 = .ok (.d2l, 1) := by decide +kernel
theorem dX5_digestOfJumper_53 : decode cX5_digestOfJumper 53 = .ok (.ladd, 1) := by decide +kernel
theorem dX5_digestOfJumper_54 : decode cX5_digestOfJumper 54 = .ok (.lstore 4, 2) := by decide +kernel
theorem dX5_digestOfJumper_56 : decode cX5_digestOfJumper 56 = .ok (.lload 4, 2) := by decide +kernel
theorem dX5_digestOfJumper_58 : decode cX5_digestOfJumper 58 = .ok (.ldc2_w 277, 3) := by decide +kernel
theorem dX5_digestOfJumper_61 : decode cX5_digestOfJumper 61 = .ok (.lmul, 1) := by decide +kernel
theorem dX5_digestOfJumper_62 : decode cX5_digestOfJumper 62 = .ok (.ldc2_w 302, 3) := by decide +kernel
theorem dX5_digestOfJumper_65 : decode cX5_digestOfJumper 65 = .ok (.aload_n 0, 1) := by decide +kernel
theorem dX5_digestOfJumper_66 : decode cX5_digestOfJumper 66 = .ok (.iload_n 3, 1) := by decide +kernel
theorem dX5_digestOfJumper_67 : decode cX5_digestOfJumper 67 = .ok (.iconst 1, 1) := by decide +kernel
theorem dX5_digestOfJumper_68 : decode cX5_digestOfJumper 68 = .ok (.invokevirtual 304, 3) := by decide +kernel
theorem dX5_digestOfJumper_71 : decode cX5_digestOfJumper 71 = .ok (.dmul, 1) := by decide +kernel
theorem dX5_digestOfJumper_72 : decode cX5_digestOfJumper 72 = .ok (.d2l, 1) := by decide +kernel
theorem dX5_digestOfJumper_73 : decode cX5_digestOfJumper 73 = .ok (.ladd, 1) := by decide +kernel
theorem dX5_digestOfJumper_74 : decode cX5_digestOfJumper 74 = .ok (.lstore 4, 2) := by decide +kernel
theorem dX5_digestOfJumper_76 : decode cX5_digestOfJumper 76 = .ok (.lload 4, 2) := by decide +kernel
theorem dX5_digestOfJumper_78 : decode cX5_digestOfJumper 78 = .ok (.ldc2_w 277, 3) := by decide +kernel
theorem dX5_digestOfJumper_81 : decode cX5_digestOfJumper 81 = .ok (.lmul, 1) := by decide +kernel
theorem dX5_digestOfJumper_82 : decode cX5_digestOfJumper 82 = .ok (.aload_n 0, 1) := by decide +kernel
theorem dX5_digestOfJumper_83 : decode cX5_digestOfJumper 83 = .ok (.iload_n 3, 1) := by decide +kernel
theorem dX5_digestOfJumper_84 : decode cX5_digestOfJumper 84 = .ok (.invokevirtual 308, 3) := by decide +kernel
theorem dX5_digestOfJumper_87 : decode cX5_digestOfJumper 87 = .ok (.i2l, 1) := by decide +kernel
theorem dX5_digestOfJumper_88 : decode cX5_digestOfJumper 88 = .ok (.ladd, 1) := by decide +kernel
theorem dX5_digestOfJumper_89 : decode cX5_digestOfJumper 89 = .ok (.lstore 4, 2) := by decide +kernel
theorem dX5_digestOfJumper_91 : decode cX5_digestOfJumper 91 = .ok (.lload 4, 2) := by decide +kernel
theorem dX5_digestOfJumper_93 : decode cX5_digestOfJumper 93 = .ok (.ldc2_w 277, 3) := by decide +kernel
theorem dX5_digestOfJumper_96 : decode cX5_digestOfJumper 96 = .ok (.lmul, 1) := by decide +kernel
theorem dX5_digestOfJumper_97 : decode cX5_digestOfJumper 97 = .ok (.aload_n 0, 1) := by decide +kernel
theorem dX5_digestOfJumper_98 : decode cX5_digestOfJumper 98 = .ok (.iload_n 3, 1) := by decide +kernel
theorem dX5_digestOfJumper_99 : decode cX5_digestOfJumper 99 = .ok (.invokevirtual 311, 3) := by decide +kernel
theorem dX5_digestOfJumper_102 : decode cX5_digestOfJumper 102 = .ok (.i2l, 1) := by decide +kernel
theorem dX5_digestOfJumper_103 : decode cX5_digestOfJumper 103 = .ok (.ladd, 1) := by decide +kernel
theorem dX5_digestOfJumper_104 : decode cX5_digestOfJumper 104 = .ok (.lreturn, 1) := by decide +kernel
theorem dX5_digestOfRig_0 : decode cX5_digestOfRig 0 = .ok (.lload_n 1, 1) := by decide +kernel
theorem dX5_digestOfRig_1 : decode cX5_digestOfRig 1 = .ok (.lstore 4, 2) := by decide +kernel
theorem dX5_digestOfRig_3 : decode cX5_digestOfRig 3 = .ok (.iconst 0, 1) := by decide +kernel
theorem dX5_digestOfRig_4 : decode cX5_digestOfRig 4 = .ok (.istore 6, 2) := by decide +kernel
theorem dX5_digestOfRig_6 : decode cX5_digestOfRig 6 = .ok (.iload 6, 2) := by decide +kernel
theorem dX5_digestOfRig_8 : decode cX5_digestOfRig 8 = .ok (.iconst 4, 1) := by decide +kernel
theorem dX5_digestOfRig_9 : decode cX5_digestOfRig 9 = .ok (.if_icmp .gt 26, 3) := by decide +kernel
theorem dX5_digestOfRig_12 : decode cX5_digestOfRig 12 = .ok (.lload 4, 2) := by decide +kernel
theorem dX5_digestOfRig_14 : decode cX5_digestOfRig 14 = .ok (.ldc2_w 277, 3) := by decide +kernel
theorem dX5_digestOfRig_17 : decode cX5_digestOfRig 17 = .ok (.lmul, 1) := by decide +kernel
theorem dX5_digestOfRig_18 : decode cX5_digestOfRig 18 = .ok (.aload_n 0, 1) := by decide +kernel
theorem dX5_digestOfRig_19 : decode cX5_digestOfRig 19 = .ok (.iload_n 3, 1) := by decide +kernel
theorem dX5_digestOfRig_20 : decode cX5_digestOfRig 20 = .ok (.iload 6, 2) := by decide +kernel
theorem dX5_digestOfRig_22 : decode cX5_digestOfRig 22 = .ok (.invokevirtual 314, 3) := by decide +kernel
theorem dX5_digestOfRig_25 : decode cX5_digestOfRig 25 = .ok (.i2l, 1) := by decide +kernel
theorem dX5_digestOfRig_26 : decode cX5_digestOfRig 26 = .ok (.ladd, 1) := by decide +kernel
theorem dX5_digestOfRig_27 : decode cX5_digestOfRig 27 = .ok (.lstore 4, 2) := by decide +kernel
theorem dX5_digestOfRig_29 : decode cX5_digestOfRig 29 = .ok (.iinc 6 1, 3) := by decide +kernel
theorem dX5_digestOfRig_32 : decode cX5_digestOfRig 32 = .ok (.goto (-26), 3) := by decide +kernel
theorem dX5_digestOfRig_35 : decode cX5_digestOfRig 35 = .ok (.lload 4, 2) := by decide +kernel
theorem dX5_digestOfRig_37 : decode cX5_digestOfRig 37 = .ok (.ldc2_w 277, 3) := by decide +kernel
theorem dX5_digestOfRig_40 : decode cX5_digestOfRig 40 = .ok (.lmul, 1) := by decide +kernel
theorem dX5_digestOfRig_41 : decode cX5_digestOfRig 41 = .ok (.ldc2_w 317, 3) := by decide +kernel
theorem dX5_digestOfRig_44 : decode cX5_digestOfRig 44 = .ok (.aload_n 0, 1) := by decide +kernel
theorem dX5_digestOfRig_45 : decode cX5_digestOfRig 45 = .ok (.iload_n 3, 1) := by decide +kernel
theorem dX5_digestOfRig_46 : decode cX5_digestOfRig 46 = .ok (.invokevirtual 319, 3) := by decide +kernel
theorem dX5_digestOfRig_49 : decode cX5_digestOfRig 49 = .ok (.dmul, 1) := by decide +kernel
theorem dX5_digestOfRig_50 : decode cX5_digestOfRig 50 = .ok (.d2l, 1) := by decide +kernel
theorem dX5_digestOfRig_51 : decode cX5_digestOfRig 51 = .ok (.ladd, 1) := by decide +kernel
theorem dX5_digestOfRig_52 : decode cX5_digestOfRig 52 = .ok (.lreturn, 1) := by decide +kernel
theorem dX5_checkArgument_0 : decode cX5_checkArgument 0 = .ok (.iload_n 0, 1) := by decide +kernel
theorem dX5_checkArgument_1 : decode cX5_checkArgument 1 = .ok (.iload_n 1, 1) := by decide +kernel
theorem dX5_checkArgument_2 : decode cX5_checkArgument 2 = .ok (.if_icmp .lt 8, 3) := by decide +kernel
theorem dX5_checkArgument_5 : decode cX5_checkArgument 5 = .ok (.iload_n 0, 1) := by decide +kernel
theorem dX5_checkArgument_6 : decode cX5_checkArgument 6 = .ok (.iload_n 2, 1) := by decide +kernel
theorem dX5_checkArgument_7 : decode cX5_checkArgument 7 = .ok (.if_icmp .le 14, 3) := by decide +kernel
theorem dX5_checkArgument_10 : decode cX5_checkArgument 10 = .ok (.new 210, 3) := by decide +kernel
theorem dX5_checkArgument_13 : decode cX5_checkArgument 13 = .ok (.dup, 1) := by decide +kernel
theorem dX5_checkArgument_14 : decode cX5_checkArgument 14 = .ok (.ldc_w 322, 3) := by decide +kernel
theorem dX5_checkArgument_17 : decode cX5_checkArgument 17 = .ok (.invokespecial 214, 3) := by decide +kernel
theorem dX5_checkArgument_20 : decode cX5_checkArgument 20 = .ok (.athrow, 1) := by decide +kernel
theorem dX5_checkArgument_21 : decode cX5_checkArgument 21 = .ok (.return_, 1) := by decide +kernel
theorem dX5_checkLayer_0 : decode cX5_checkLayer 0 = .ok (.iload_n 0, 1) := by decide +kernel
theorem dX5_checkLayer_1 : decode cX5_checkLayer 1 = .ok (.ifCond .lt 9, 3) := by decide +kernel
theorem dX5_checkLayer_4 : decode cX5_checkLayer 4 = .ok (.iload_n 0, 1) := by decide +kernel
theorem dX5_checkLayer_5 : decode cX5_checkLayer 5 = .ok (.bipush 10, 2) := by decide +kernel
theorem dX5_checkLayer_7 : decode cX5_checkLayer 7 = .ok (.if_icmp .lt 14, 3) := by decide +kernel
theorem dX5_checkLayer_10 : decode cX5_checkLayer 10 = .ok (.new 240, 3) := by decide +kernel
theorem dX5_checkLayer_13 : decode cX5_checkLayer 13 = .ok (.dup, 1) := by decide +kernel
theorem dX5_checkLayer_14 : decode cX5_checkLayer 14 = .ok (.ldc_w 324, 3) := by decide +kernel
theorem dX5_checkLayer_17 : decode cX5_checkLayer 17 = .ok (.invokespecial 244, 3) := by decide +kernel
theorem dX5_checkLayer_20 : decode cX5_checkLayer 20 = .ok (.athrow, 1) := by decide +kernel
theorem dX5_checkLayer_21 : decode cX5_checkLayer 21 = .ok (.return_, 1) := by decide +kernel
theorem dX5_jumperAt_0 : decode cX5_jumperAt 0 = .ok (.iload_n 1, 1) := by decide +kernel
theorem dX5_jumperAt_1 : decode cX5_jumperAt 1 = .ok (.ifCond .lt 17, 3) := by decide +kernel
theorem dX5_jumperAt_4 : decode cX5_jumperAt 4 = .ok (.iload_n 1, 1) := by decide +kernel
theorem dX5_jumperAt_5 : decode cX5_jumperAt 5 = .ok (.aload_n 0, 1) := by decide +kernel
theorem dX5_jumperAt_6 : decode cX5_jumperAt 6 = .ok (.getfield 15, 3) := by decide +kernel
theorem dX5_jumperAt_9 : decode cX5_jumperAt 9 = .ok (.if_icmp .ge 9, 3) := by decide +kernel
theorem dX5_jumperAt_12 : decode cX5_jumperAt 12 = .ok (.iload_n 1, 1) := by decide +kernel
theorem dX5_jumperAt_13 : decode cX5_jumperAt 13 = .ok (.bipush 8, 2) := by decide +kernel
theorem dX5_jumperAt_15 : decode cX5_jumperAt 15 = .ok (.if_icmp .lt 14, 3) := by decide +kernel
theorem dX5_jumperAt_18 : decode cX5_jumperAt 18 = .ok (.new 240, 3) := by decide +kernel
theorem dX5_jumperAt_21 : decode cX5_jumperAt 21 = .ok (.dup, 1) := by decide +kernel
theorem dX5_jumperAt_22 : decode cX5_jumperAt 22 = .ok (.ldc_w 326, 3) := by decide +kernel
theorem dX5_jumperAt_25 : decode cX5_jumperAt 25 = .ok (.invokespecial 244, 3) := by decide +kernel
theorem dX5_jumperAt_28 : decode cX5_jumperAt 28 = .ok (.athrow, 1) := by decide +kernel
theorem dX5_jumperAt_29 : decode cX5_jumperAt 29 = .ok (.aload_n 0, 1) := by decide +kernel
theorem dX5_jumperAt_30 : decode cX5_jumperAt 30 = .ok (.getfield 11, 3) := by decide +kernel
theorem dX5_jumperAt_33 : decode cX5_jumperAt 33 = .ok (.iload_n 1, 1) := by decide +kernel
theorem dX5_jumperAt_34 : decode cX5_jumperAt 34 = .ok (.aaload, 1) := by decide +kernel
theorem dX5_jumperAt_35 : decode cX5_jumperAt 35 = .ok (.areturn, 1) := by decide +kernel
theorem dX5_rigAt_0 : decode cX5_rigAt 0 = .ok (.iload_n 1, 1) := by decide +kernel
theorem dX5_rigAt_1 : decode cX5_rigAt 1 = .ok (.ifCond .lt 17, 3) := by decide +kernel
theorem dX5_rigAt_4 : decode cX5_rigAt 4 = .ok (.iload_n 1, 1) := by decide +kernel
theorem dX5_rigAt_5 : decode cX5_rigAt 5 = .ok (.aload_n 0, 1) := by decide +kernel
theorem dX5_rigAt_6 : decode cX5_rigAt 6 = .ok (.getfield 25, 3) := by decide +kernel
theorem dX5_rigAt_9 : decode cX5_rigAt 9 = .ok (.if_icmp .ge 9, 3) := by decide +kernel
theorem dX5_rigAt_12 : decode cX5_rigAt 12 = .ok (.iload_n 1, 1) := by decide +kernel
theorem dX5_rigAt_13 : decode cX5_rigAt 13 = .ok (.bipush 8, 2) := by decide +kernel
theorem dX5_rigAt_15 : decode cX5_rigAt 15 = .ok (.if_icmp .lt 14, 3) := by decide +kernel
theorem dX5_rigAt_18 : decode cX5_rigAt 18 = .ok (.new 240, 3) := by decide +kernel
theorem dX5_rigAt_21 : decode cX5_rigAt 21 = .ok (.dup, 1) := by decide +kernel
theorem dX5_rigAt_22 : decode cX5_rigAt 22 = .ok (.ldc_w 328, 3) := by decide +kernel
theorem dX5_rigAt_25 : decode cX5_rigAt 25 = .ok (.invokespecial 244, 3) := by decide +kernel
theorem dX5_rigAt_28 : decode cX5_rigAt 28 = .ok (.athrow, 1) := by decide +kernel
theorem dX5_rigAt_29 : decode cX5_rigAt 29 = .ok (.aload_n 0, 1) := by decide +kernel
theorem dX5_rigAt_30 : decode cX5_rigAt 30 = .ok (.getfield 21, 3) := by decide +kernel
theorem dX5_rigAt_33 : decode cX5_rigAt 33 = .ok (.iload_n 1, 1) := by decide +kernel
theorem dX5_rigAt_34 : decode cX5_rigAt 34 = .ok (.aaload, 1) := by decide +kernel
theorem dX5_rigAt_35 : decode cX5_rigAt 35 = .ok (.areturn, 1) := by decide +kernel
theorem dX5_holderOf_0 : decode cX5_holderOf 0 = .ok (.iconst 0, 1) := by decide +kernel
theorem dX5_holderOf_1 : decode cX5_holderOf 1 = .ok (.istore_n 2, 1) := by decide +kernel
theorem dX5_holderOf_2 : decode cX5_holderOf 2 = .ok (.iload_n 2, 1) := by decide +kernel
theorem dX5_holderOf_3 : decode cX5_holderOf 3 = .ok (.aload_n 0, 1) := by decide +kernel
theorem dX5_holderOf_4 : decode cX5_holderOf 4 = .ok (.getfield 15, 3) := by decide +kernel
theorem dX5_holderOf_7 : decode cX5_holderOf 7 = .ok (.if_icmp .ge 23, 3) := by decide +kernel
theorem dX5_holderOf_10 : decode cX5_holderOf 10 = .ok (.aload_n 0, 1) := by decide +kernel
theorem dX5_holderOf_11 : decode cX5_holderOf 11 = .ok (.iload_n 2, 1) := by decide +kernel
theorem dX5_holderOf_12 : decode cX5_holderOf 12 = .ok (.invokevirtual 118, 3) := by decide +kernel
theorem dX5_holderOf_15 : decode cX5_holderOf 15 = .ok (.getfield 131, 3) := by decide +kernel
theorem dX5_holderOf_18 : decode cX5_holderOf 18 = .ok (.iload_n 1, 1) := by decide +kernel
theorem dX5_holderOf_19 : decode cX5_holderOf 19 = .ok (.if_icmp .ne 5, 3) := by decide +kernel
theorem dX5_holderOf_22 : decode cX5_holderOf 22 = .ok (.iload_n 2, 1) := by decide +kernel
theorem dX5_holderOf_23 : decode cX5_holderOf 23 = .ok (.ireturn, 1) := by decide +kernel
theorem dX5_holderOf_24 : decode cX5_holderOf 24 = .ok (.iinc 2 1, 3) := by decide +kernel
theorem dX5_holderOf_27 : decode cX5_holderOf 27 = .ok (.goto (-25), 3) := by decide +kernel
theorem dX5_holderOf_30 : decode cX5_holderOf 30 = .ok (.iconst (-1), 1) := by decide +kernel
theorem dX5_holderOf_31 : decode cX5_holderOf 31 = .ok (.ireturn, 1) := by decide +kernel
theorem dX5_placeOf_0 : decode cX5_placeOf 0 = .ok (.iconst 0, 1) := by decide +kernel
theorem dX5_placeOf_1 : decode cX5_placeOf 1 = .ok (.istore_n 2, 1) := by decide +kernel
theorem dX5_placeOf_2 : decode cX5_placeOf 2 = .ok (.iload_n 2, 1) := by decide +kernel
theorem dX5_placeOf_3 : decode cX5_placeOf 3 = .ok (.aload_n 0, 1) := by decide +kernel
theorem dX5_placeOf_4 : decode cX5_placeOf 4 = .ok (.getfield 39, 3) := by decide +kernel
theorem dX5_placeOf_7 : decode cX5_placeOf 7 = .ok (.if_icmp .ge 20, 3) := by decide +kernel
theorem dX5_placeOf_10 : decode cX5_placeOf 10 = .ok (.aload_n 0, 1) := by decide +kernel
theorem dX5_placeOf_11 : decode cX5_placeOf 11 = .ok (.iload_n 2, 1) := by decide +kernel
theorem dX5_placeOf_12 : decode cX5_placeOf 12 = .ok (.invokevirtual 194, 3) := by decide +kernel
theorem dX5_placeOf_15 : decode cX5_placeOf 15 = .ok (.iload_n 1, 1) := by decide +kernel
theorem dX5_placeOf_16 : decode cX5_placeOf 16 = .ok (.if_icmp .ne 5, 3) := by decide +kernel
theorem dX5_placeOf_19 : decode cX5_placeOf 19 = .ok (.iload_n 2, 1) := by decide +kernel
theorem dX5_placeOf_20 : decode cX5_placeOf 20 = .ok (.ireturn, 1) := by decide +kernel
theorem dX5_placeOf_21 : decode cX5_placeOf 21 = .ok (.iinc 2 1, 3) := by decide +kernel
theorem dX5_placeOf_24 : decode cX5_placeOf 24 = .ok (.goto (-22), 3) := by decide +kernel
theorem dX5_placeOf_27 : decode cX5_placeOf 27 = .ok (.iconst (-1), 1) := by decide +kernel
theorem dX5_placeOf_28 : decode cX5_placeOf 28 = .ok (.ireturn, 1) := by decide +kernel
theorem dX5_loadingOf_0 : decode cX5_loadingOf 0 = .ok (.aload_n 1, 1) := by decide +kernel
theorem dX5_loadingOf_1 : decode cX5_loadingOf 1 = .ok (.getfield 131, 3) := by decide +kernel
theorem dX5_loadingOf_4 : decode cX5_loadingOf 4 = .ok (.iconst (-1), 1) := by decide +kernel
theorem dX5_loadingOf_5 : decode cX5_loadingOf 5 = .ok (.if_icmp .ne 7, 3) := by decide +kernel
theorem dX5_loadingOf_8 : decode cX5_loadingOf 8 = .ok (.fconst 0, 1) := by decide +kernel
theorem dX5_loadingOf_9 : decode cX5_loadingOf 9 = .ok (.goto 15, 3) := by decide +kernel
theorem dX5_loadingOf_12 : decode cX5_loadingOf 12 = .ok (.aload_n 1, 1) := by decide +kernel
theorem dX5_loadingOf_13 : decode cX5_loadingOf 13 = .ok (.aload_n 0, 1) := by decide +kernel
theorem dX5_loadingOf_14 : decode cX5_loadingOf 14 = .ok (.aload_n 1, 1) := by decide +kernel
theorem dX5_loadingOf_15 : decode cX5_loadingOf 15 = .ok (.getfield 131, 3) := by decide +kernel
theorem dX5_loadingOf_18 : decode cX5_loadingOf 18 = .ok (.invokevirtual 114, 3) := by decide +kernel
theorem dX5_loadingOf_21 : decode cX5_loadingOf 21 = .ok (.invokestatic 267, 3) := by decide +kernel
theorem dX5_loadingOf_24 : decode cX5_loadingOf 24 = .ok (.freturn, 1) := by decide +kernel
theorem dX5_loadingWith_0 : decode cX5_loadingWith 0 = .ok (.aload_n 1, 1) := by decide +kernel
theorem dX5_loadingWith_1 : decode cX5_loadingWith 1 = .ok (.getfield 108, 3) := by decide +kernel
theorem dX5_loadingWith_4 : decode cX5_loadingWith 4 = .ok (.ifCond .le 21, 3) := by decide +kernel
theorem dX5_loadingWith_7 : decode cX5_loadingWith 7 = .ok (.aload_n 0, 1) := by decide +kernel
theorem dX5_loadingWith_8 : decode cX5_loadingWith 8 = .ok (.getfield 97, 3) := by decide +kernel
theorem dX5_loadingWith_11 : decode cX5_loadingWith 11 = .ok (.i2f, 1) := by decide +kernel
theorem dX5_loadingWith_12 : decode cX5_loadingWith 12 = .ok (.ldc_w 330, 3) := by decide +kernel
theorem dX5_loadingWith_15 : decode cX5_loadingWith 15 = .ok (.fmul, 1) := by decide +kernel
theorem dX5_loadingWith_16 : decode cX5_loadingWith 16 = .ok (.aload_n 1, 1) := by decide +kernel
theorem dX5_loadingWith_17 : decode cX5_loadingWith 17 = .ok (.getfield 108, 3) := by decide +kernel
theorem dX5_loadingWith_20 : decode cX5_loadingWith 20 = .ok (.i2f, 1) := by decide +kernel
theorem dX5_loadingWith_21 : decode cX5_loadingWith 21 = .ok (.fdiv, 1) := by decide +kernel
theorem dX5_loadingWith_22 : decode cX5_loadingWith 22 = .ok (.goto 4, 3) := by decide +kernel
theorem dX5_loadingWith_25 : decode cX5_loadingWith 25 = .ok (.fconst 0, 1) := by decide +kernel
theorem dX5_loadingWith_26 : decode cX5_loadingWith 26 = .ok (.freturn, 1) := by decide +kernel
theorem dX5_limitOf_0 : decode cX5_limitOf 0 = .ok (.iload_n 1, 1) := by decide +kernel
theorem dX5_limitOf_1 : decode cX5_limitOf 1 = .ok (.ifCond .lt 15, 3) := by decide +kernel
theorem dX5_limitOf_4 : decode cX5_limitOf 4 = .ok (.iload_n 1, 1) := by decide +kernel
theorem dX5_limitOf_5 : decode cX5_limitOf 5 = .ok (.aload_n 0, 1) := by decide +kernel
theorem dX5_limitOf_6 : decode cX5_limitOf 6 = .ok (.arraylength, 1) := by decide +kernel
theorem dX5_limitOf_7 : decode cX5_limitOf 7 = .ok (.if_icmp .ge 9, 3) := by decide +kernel
theorem dX5_limitOf_10 : decode cX5_limitOf 10 = .ok (.aload_n 0, 1) := by decide +kernel
theorem dX5_limitOf_11 : decode cX5_limitOf 11 = .ok (.iload_n 1, 1) := by decide +kernel
theorem dX5_limitOf_12 : decode cX5_limitOf 12 = .ok (.iaload, 1) := by decide +kernel
theorem dX5_limitOf_13 : decode cX5_limitOf 13 = .ok (.goto 4, 3) := by decide +kernel
theorem dX5_limitOf_16 : decode cX5_limitOf 16 = .ok (.iconst 0, 1) := by decide +kernel
theorem dX5_limitOf_17 : decode cX5_limitOf 17 = .ok (.ireturn, 1) := by decide +kernel
theorem dX5_isLet_0 : decode cX5_isLet 0 = .ok (.fload_n 2, 1) := by decide +kernel
theorem dX5_isLet_1 : decode cX5_isLet 1 = .ok (.getstatic 331, 3) := by decide +kernel
theorem dX5_isLet_4 : decode cX5_isLet 4 = .ok (.aload_n 1, 1) := by decide +kernel
theorem dX5_isLet_5 : decode cX5_isLet 5 = .ok (.getfield 100, 3) := by decide +kernel
theorem dX5_isLet_8 : decode cX5_isLet 8 = .ok (.invokestatic 334, 3) := by decide +kernel
theorem dX5_isLet_11 : decode cX5_isLet 11 = .ok (.i2f, 1) := by decide +kernel
theorem dX5_isLet_12 : decode cX5_isLet 12 = .ok (.fcmp .l, 1) := by decide +kernel
theorem dX5_isLet_13 : decode cX5_isLet 13 = .ok (.ifCond .le 5, 3) := by decide +kernel
theorem dX5_isLet_16 : decode cX5_isLet 16 = .ok (.iconst 0, 1) := by decide +kernel
theorem dX5_isLet_17 : decode cX5_isLet 17 = .ok (.ireturn, 1) := by decide +kernel
theorem dX5_isLet_18 : decode cX5_isLet 18 = .ok (.fload_n 2, 1) := by decide +kernel
theorem dX5_isLet_19 : decode cX5_isLet 19 = .ok (.ldc_w 338, 3) := by decide +kernel
theorem dX5_isLet_22 : decode cX5_isLet 22 = .ok (.fcmp .g, 1) := by decide +kernel
theorem dX5_isLet_23 : decode cX5_isLet 23 = .ok (.ifCond .le 17, 3) := by decide +kernel
theorem dX5_isLet_26 : decode cX5_isLet 26 = .ok (.aload_n 0, 1) := by decide +kernel
theorem dX5_isLet_27 : decode cX5_isLet 27 = .ok (.getfield 60, 3) := by decide +kernel
theorem dX5_isLet_30 : decode cX5_isLet 30 = .ok (.aload_n 1, 1) := by decide +kernel
theorem dX5_isLet_31 : decode cX5_isLet 31 = .ok (.getfield 103, 3) := by decide +kernel
theorem dX5_isLet_34 : decode cX5_isLet 34 = .ok (.isub, 1) := by decide +kernel
theorem dX5_isLet_35 : decode cX5_isLet 35 = .ok (.bipush 30, 2) := by decide +kernel
theorem dX5_isLet_37 : decode cX5_isLet 37 = .ok (.if_icmp .gt 7, 3) := by decide +kernel
theorem dX5_isLet_40 : decode cX5_isLet 40 = .ok (.iconst 1, 1) := by decide +kernel
theorem dX5_isLet_41 : decode cX5_isLet 41 = .ok (.goto 4, 3) := by decide +kernel
theorem dX5_isLet_44 : decode cX5_isLet 44 = .ok (.iconst 0, 1) := by decide +kernel
theorem dX5_isLet_45 : decode cX5_isLet 45 = .ok (.ireturn, 1) := by decide +kernel
theorem dX5_whyNot_0 : decode cX5_whyNot 0 = .ok (.aload_n 0, 1) := by decide +kernel
theorem dX5_whyNot_1 : decode cX5_whyNot 1 = .ok (.iload_n 1, 1) := by decide +kernel
theorem dX5_whyNot_2 : decode cX5_whyNot 2 = .ok (.invokevirtual 118, 3) := by decide +kernel
theorem dX5_whyNot_5 : decode cX5_whyNot 5 = .ok (.astore_n 2, 1) := by decide +kernel
theorem dX5_whyNot_6 : decode cX5_whyNot 6 = .ok (.aload_n 2, 1) := by decide +kernel
theorem dX5_whyNot_7 : decode cX5_whyNot 7 = .ok (.getfield 131, 3) := by decide +kernel
theorem dX5_whyNot_10 : decode cX5_whyNot 10 = .ok (.iconst (-1), 1) := by decide +kernel
theorem dX5_whyNot_11 : decode cX5_whyNot 11 = .ok (.if_icmp .ne 5, 3) := by decide +kernel
theorem dX5_whyNot_14 : decode cX5_whyNot 14 = .ok (.iconst 1, 1) := by decide +kernel
theorem dX5_whyNot_15 : decode cX5_whyNot 15 = .ok (.ireturn, 1) := by decide +kernel
theorem dX5_whyNot_16 : decode cX5_whyNot 16 = .ok (.aload_n 0, 1) := by decide +kernel
theorem dX5_whyNot_17 : decode cX5_whyNot 17 = .ok (.aload_n 2, 1) := by decide +kernel
theorem dX5_whyNot_18 : decode cX5_whyNot 18 = .ok (.getfield 131, 3) := by decide +kernel
theorem dX5_whyNot_21 : decode cX5_whyNot 21 = .ok (.invokevirtual 114, 3) := by decide +kernel
theorem dX5_whyNot_24 : decode cX5_whyNot 24 = .ok (.astore_n 3, 1) := by decide +kernel
theorem dX5_whyNot_25 : decode cX5_whyNot 25 = .ok (.aload_n 3, 1) := by decide +kernel
theorem dX5_whyNot_26 : decode cX5_whyNot 26 = .ok (.getfield 134, 3) := by decide +kernel
theorem dX5_whyNot_29 : decode cX5_whyNot 29 = .ok (.ifCond .ne 5, 3) := by decide +kernel
theorem dX5_whyNot_32 : decode cX5_whyNot 32 = .ok (.iconst 2, 1) := by decide +kernel
theorem dX5_whyNot_33 : decode cX5_whyNot 33 = .ok (.ireturn, 1) := by decide +kernel
theorem dX5_whyNot_34 : decode cX5_whyNot 34 = .ok (.aload_n 3, 1) := by decide +kernel
theorem dX5_whyNot_35 : decode cX5_whyNot 35 = .ok (.getfield 111, 3) := by decide +kernel
theorem dX5_whyNot_38 : decode cX5_whyNot 38 = .ok (.aload_n 0, 1) := by decide +kernel
theorem dX5_whyNot_39 : decode cX5_whyNot 39 = .ok (.getfield 60, 3) := by decide +kernel
theorem dX5_whyNot_42 : decode cX5_whyNot 42 = .ok (.if_icmp .ge 5, 3) := by decide +kernel
theorem dX5_whyNot_45 : decode cX5_whyNot 45 = .ok (.iconst 3, 1) := by decide +kernel
theorem dX5_whyNot_46 : decode cX5_whyNot 46 = .ok (.ireturn, 1) := by decide +kernel
theorem dX5_whyNot_47 : decode cX5_whyNot 47 = .ok (.aload_n 0, 1) := by decide +kernel
theorem dX5_whyNot_48 : decode cX5_whyNot 48 = .ok (.getfield 31, 3) := by decide +kernel
theorem dX5_whyNot_51 : decode cX5_whyNot 51 = .ok (.invokevirtual 160, 3) := by decide +kernel
theorem dX5_whyNot_54 : decode cX5_whyNot 54 = .ok (.getstatic 339, 3) := by decide +kernel
theorem dX5_whyNot_57 : decode cX5_whyNot 57 = .ok (.aload_n 2, 1) := by decide +kernel
theorem dX5_whyNot_58 : decode cX5_whyNot 58 = .ok (.getfield 100, 3) := by decide +kernel
theorem dX5_whyNot_61 : decode cX5_whyNot 61 = .ok (.invokestatic 334, 3) := by decide +kernel
theorem dX5_whyNot_64 : decode cX5_whyNot 64 = .ok (.if_icmp .le 5, 3) := by decide +kernel
theorem dX5_whyNot_67 : decode cX5_whyNot 67 = .ok (.iconst 4, 1) := by decide +kernel
theorem dX5_whyNot_68 : decode cX5_whyNot 68 = .ok (.ireturn, 1) := by decide +kernel
theorem dX5_whyNot_69 : decode cX5_whyNot 69 = .ok (.aload_n 0, 1) := by decide +kernel
theorem dX5_whyNot_70 : decode cX5_whyNot 70 = .ok (.aload_n 2, 1) := by decide +kernel
theorem dX5_whyNot_71 : decode cX5_whyNot 71 = .ok (.aload_n 2, 1) := by decide +kernel
theorem dX5_whyNot_72 : decode cX5_whyNot 72 = .ok (.aload_n 3, 1) := by decide +kernel
theorem dX5_whyNot_73 : decode cX5_whyNot 73 = .ok (.invokestatic 267, 3) := by decide +kernel
theorem dX5_whyNot_76 : decode cX5_whyNot 76 = .ok (.invokevirtual 271, 3) := by decide +kernel
theorem dX5_whyNot_79 : decode cX5_whyNot 79 = .ok (.ifCond .ne 5, 3) := by decide +kernel
theorem dX5_whyNot_82 : decode cX5_whyNot 82 = .ok (.iconst 5, 1) := by decide +kernel
theorem dX5_whyNot_83 : decode cX5_whyNot 83 = .ok (.ireturn, 1) := by decide +kernel
theorem dX5_whyNot_84 : decode cX5_whyNot 84 = .ok (.aload_n 0, 1) := by decide +kernel
theorem dX5_whyNot_85 : decode cX5_whyNot 85 = .ok (.iload_n 1, 1) := by decide +kernel
theorem dX5_whyNot_86 : decode cX5_whyNot 86 = .ok (.invokevirtual 126, 3) := by decide +kernel
theorem dX5_whyNot_89 : decode cX5_whyNot 89 = .ok (.iconst (-1), 1) := by decide +kernel
theorem dX5_whyNot_90 : decode cX5_whyNot 90 = .ok (.if_icmp .ne 7, 3) := by decide +kernel
theorem dX5_whyNot_93 : decode cX5_whyNot 93 = .ok (.iconst 0, 1) := by decide +kernel
theorem dX5_whyNot_94 : decode cX5_whyNot 94 = .ok (.goto 5, 3) := by decide +kernel
theorem dX5_whyNot_97 : decode cX5_whyNot 97 = .ok (.bipush 6, 2) := by decide +kernel
theorem dX5_whyNot_99 : decode cX5_whyNot 99 = .ok (.ireturn, 1) := by decide +kernel
theorem dX5_lineUp_0 : decode cX5_lineUp 0 = .ok (.aload_n 0, 1) := by decide +kernel
theorem dX5_lineUp_1 : decode cX5_lineUp 1 = .ok (.getfield 39, 3) := by decide +kernel
theorem dX5_lineUp_4 : decode cX5_lineUp 4 = .ok (.istore_n 2, 1) := by decide +kernel
theorem dX5_lineUp_5 : decode cX5_lineUp 5 = .ok (.iload_n 2, 1) := by decide +kernel
theorem dX5_lineUp_6 : decode cX5_lineUp 6 = .ok (.ifCond .le 36, 3) := by decide +kernel
theorem dX5_lineUp_9 : decode cX5_lineUp 9 = .ok (.aload_n 0, 1) := by decide +kernel
theorem dX5_lineUp_10 : decode cX5_lineUp 10 = .ok (.iload_n 1, 1) := by decide +kernel
theorem dX5_lineUp_11 : decode cX5_lineUp 11 = .ok (.aload_n 0, 1) := by decide +kernel
theorem dX5_lineUp_12 : decode cX5_lineUp 12 = .ok (.iload_n 2, 1) := by decide +kernel
theorem dX5_lineUp_13 : decode cX5_lineUp 13 = .ok (.iconst 1, 1) := by decide +kernel
theorem dX5_lineUp_14 : decode cX5_lineUp 14 = .ok (.isub, 1) := by decide +kernel
theorem dX5_lineUp_15 : decode cX5_lineUp 15 = .ok (.invokevirtual 194, 3) := by decide +kernel
theorem dX5_lineUp_18 : decode cX5_lineUp 18 = .ok (.invokevirtual 342, 3) := by decide +kernel
theorem dX5_lineUp_21 : decode cX5_lineUp 21 = .ok (.ifCond .eq 21, 3) := by decide +kernel
theorem dX5_lineUp_24 : decode cX5_lineUp 24 = .ok (.aload_n 0, 1) := by decide +kernel
theorem dX5_lineUp_25 : decode cX5_lineUp 25 = .ok (.iload_n 2, 1) := by decide +kernel
theorem dX5_lineUp_26 : decode cX5_lineUp 26 = .ok (.aload_n 0, 1) := by decide +kernel
theorem dX5_lineUp_27 : decode cX5_lineUp 27 = .ok (.iload_n 2, 1) := by decide +kernel
theorem dX5_lineUp_28 : decode cX5_lineUp 28 = .ok (.iconst 1, 1) := by decide +kernel
theorem dX5_lineUp_29 : decode cX5_lineUp 29 = .ok (.isub, 1) := by decide +kernel
theorem dX5_lineUp_30 : decode cX5_lineUp 30 = .ok (.invokevirtual 194, 3) := by decide +kernel
theorem dX5_lineUp_33 : decode cX5_lineUp 33 = .ok (.invokevirtual 346, 3) := by decide +kernel
theorem dX5_lineUp_36 : decode cX5_lineUp 36 = .ok (.iinc 2 (-1), 3) := by decide +kernel
theorem dX5_lineUp_39 : decode cX5_lineUp 39 = .ok (.goto (-34), 3) := by decide +kernel
theorem dX5_lineUp_42 : decode cX5_lineUp 42 = .ok (.aload_n 0, 1) := by decide +kernel
theorem dX5_lineUp_43 : decode cX5_lineUp 43 = .ok (.iload_n 2, 1) := by decide +kernel
theorem dX5_lineUp_44 : decode cX5_lineUp 44 = .ok (.iload_n 1, 1) := by decide +kernel
theorem dX5_lineUp_45 : decode cX5_lineUp 45 = .ok (.invokevirtual 346, 3) := by decide +kernel
theorem dX5_lineUp_48 : decode cX5_lineUp 48 = .ok (.aload_n 0, 1) := by decide +kernel
theorem dX5_lineUp_49 : decode cX5_lineUp 49 = .ok (.dup, 1) := by decide +kernel
theorem dX5_lineUp_50 : decode cX5_lineUp 50 = .ok (.getfield 39, 3) := by decide +kernel
theorem dX5_lineUp_53 : decode cX5_lineUp 53 = .ok (.iconst 1, 1) := by decide +kernel
theorem dX5_lineUp_54 : decode cX5_lineUp 54 = .ok (.iadd, 1) := by decide +kernel
theorem dX5_lineUp_55 : decode cX5_lineUp 55 = .ok (.putfield 39, 3) := by decide +kernel
theorem dX5_lineUp_58 : decode cX5_lineUp 58 = .ok (.return_, 1) := by decide +kernel
theorem dX5_setPlace_0 : decode cX5_setPlace 0 = .ok (.iload_n 1, 1) := by decide +kernel
theorem dX5_setPlace_1 : decode cX5_setPlace 1 = .ok (.ifCond .lt 16, 3) := by decide +kernel
theorem dX5_setPlace_4 : decode cX5_setPlace 4 = .ok (.iload_n 1, 1) := by decide +kernel
theorem dX5_setPlace_5 : decode cX5_setPlace 5 = .ok (.bipush 6, 2) := by decide +kernel
theorem dX5_setPlace_7 : decode cX5_setPlace 7 = .ok (.if_icmp .ge 10, 3) := by decide +kernel
theorem dX5_setPlace_10 : decode cX5_setPlace 10 = .ok (.aload_n 0, 1) := by decide +kernel
theorem dX5_setPlace_11 : decode cX5_setPlace 11 = .ok (.getfield 35, 3) := by decide +kernel
theorem dX5_setPlace_14 : decode cX5_setPlace 14 = .ok (.iload_n 1, 1) := by decide +kernel
theorem dX5_setPlace_15 : decode cX5_setPlace 15 = .ok (.iload_n 2, 1) := by decide +kernel
theorem dX5_setPlace_16 : decode cX5_setPlace 16 = .ok (.iastore, 1) := by decide +kernel
theorem dX5_setPlace_17 : decode cX5_setPlace 17 = .ok (.return_, 1) := by decide +kernel
theorem dX5_goesAhead_0 : decode cX5_goesAhead 0 = .ok (.aload_n 0, 1) := by decide +kernel
theorem dX5_goesAhead_1 : decode cX5_goesAhead 1 = .ok (.iload_n 1, 1) := by decide +kernel
theorem dX5_goesAhead_2 : decode cX5_goesAhead 2 = .ok (.invokevirtual 118, 3) := by decide +kernel
theorem dX5_goesAhead_5 : decode cX5_goesAhead 5 = .ok (.astore_n 3, 1) := by decide +kernel
theorem dX5_goesAhead_6 : decode cX5_goesAhead 6 = .ok (.aload_n 0, 1) := by decide +kernel
theorem dX5_goesAhead_7 : decode cX5_goesAhead 7 = .ok (.iload_n 2, 1) := by decide +kernel
theorem dX5_goesAhead_8 : decode cX5_goesAhead 8 = .ok (.invokevirtual 118, 3) := by decide +kernel
theorem dX5_goesAhead_11 : decode cX5_goesAhead 11 = .ok (.astore 4, 2) := by decide +kernel
theorem dX5_goesAhead_13 : decode cX5_goesAhead 13 = .ok (.aload_n 3, 1) := by decide +kernel
theorem dX5_goesAhead_14 : decode cX5_goesAhead 14 = .ok (.getfield 100, 3) := by decide +kernel
theorem dX5_goesAhead_17 : decode cX5_goesAhead 17 = .ok (.ifCond .ne 7, 3) := by decide +kernel
theorem dX5_goesAhead_20 : decode cX5_goesAhead 20 = .ok (.iconst 1, 1) := by decide +kernel
theorem dX5_goesAhead_21 : decode cX5_goesAhead 21 = .ok (.goto 4, 3) := by decide +kernel
theorem dX5_goesAhead_24 : decode cX5_goesAhead 24 = .ok (.iconst 0, 1) := by decide +kernel
theorem dX5_goesAhead_25 : decode cX5_goesAhead 25 = .ok (.istore 5, 2) := by decide +kernel
theorem dX5_goesAhead_27 : decode cX5_goesAhead 27 = .ok (.aload 4, 2) := by decide +kernel
theorem dX5_goesAhead_29 : decode cX5_goesAhead 29 = .ok (.getfield 100, 3) := by decide +kernel
theorem dX5_goesAhead_32 : decode cX5_goesAhead 32 = .ok (.ifCond .ne 7, 3) := by decide +kernel
theorem dX5_goesAhead_35 : decode cX5_goesAhead 35 = .ok (.iconst 1, 1) := by decide +kernel
theorem dX5_goesAhead_36 : decode cX5_goesAhead 36 = .ok (.goto 4, 3) := by decide +kernel
theorem dX5_goesAhead_39 : decode cX5_goesAhead 39 = .ok (.iconst 0, 1) := by decide +kernel
theorem dX5_goesAhead_40 : decode cX5_goesAhead 40 = .ok (.istore 6, 2) := by decide +kernel
theorem dX5_goesAhead_42 : decode cX5_goesAhead 42 = .ok (.iload 5, 2) := by decide +kernel
theorem dX5_goesAhead_44 : decode cX5_goesAhead 44 = .ok (.iload 6, 2) := by decide +kernel
theorem dX5_goesAhead_46 : decode cX5_goesAhead 46 = .ok (.if_icmp .eq 6, 3) := by decide +kernel
theorem dX5_goesAhead_49 : decode cX5_goesAhead 49 = .ok (.iload 6, 2) := by decide +kernel
theorem dX5_goesAhead_51 : decode cX5_goesAhead 51 = .ok (.ireturn, 1) := by decide +kernel
theorem dX5_goesAhead_52 : decode cX5_goesAhead 52 = .ok (.aload_n 3, 1) := by decide +kernel
theorem dX5_goesAhead_53 : decode cX5_goesAhead 53 = .ok (.getfield 169, 3) := by decide +kernel
theorem dX5_goesAhead_56 : decode cX5_goesAhead 56 = .ok (.aload 4, 2) := by decide +kernel
theorem dX5_goesAhead_58 : decode cX5_goesAhead 58 = .ok (.getfield 169, 3) := by decide +kernel
theorem dX5_goesAhead_61 : decode cX5_goesAhead 61 = .ok (.if_icmp .eq 16, 3) := by decide +kernel
theorem dX5_goesAhead_64 : decode cX5_goesAhead 64 = .ok (.aload_n 3, 1) := by decide +kernel
theorem dX5_goesAhead_65 : decode cX5_goesAhead 65 = .ok (.getfield 169, 3) := by decide +kernel
theorem dX5_goesAhead_68 : decode cX5_goesAhead 68 = .ok (.ifCond .ne 7, 3) := by decide +kernel
theorem dX5_goesAhead_71 : decode cX5_goesAhead 71 = .ok (.iconst 1, 1) := by decide +kernel
theorem dX5_goesAhead_72 : decode cX5_goesAhead 72 = .ok (.goto 4, 3) := by decide +kernel
theorem dX5_goesAhead_75 : decode cX5_goesAhead 75 = .ok (.iconst 0, 1) := by decide +kernel
theorem dX5_goesAhead_76 : decode cX5_goesAhead 76 = .ok (.ireturn, 1) := by decide +kernel
theorem dX5_goesAhead_77 : decode cX5_goesAhead 77 = .ok (.aload_n 0, 1) := by decide +kernel
theorem dX5_goesAhead_78 : decode cX5_goesAhead 78 = .ok (.aload_n 3, 1) := by decide +kernel
theorem dX5_goesAhead_79 : decode cX5_goesAhead 79 = .ok (.invokevirtual 215, 3) := by decide +kernel
theorem dX5_goesAhead_82 : decode cX5_goesAhead 82 = .ok (.fstore 7, 2) := by decide +kernel
theorem dX5_goesAhead_84 : decode cX5_goesAhead 84 = .ok (.aload_n 0, 1) := by decide +kernel
theorem dX5_goesAhead_85 : decode cX5_goesAhead 85 = .ok (.aload 4, 2) := by decide +kernel
theorem dX5_goesAhead_87 : decode cX5_goesAhead 87 = .ok (.invokevirtual 215, 3) := by decide +kernel
theorem dX5_goesAhead_90 : decode cX5_goesAhead 90 = .ok (.fstore 8, 2) := by decide +kernel
theorem dX5_goesAhead_92 : decode cX5_goesAhead 92 = .ok (.fload 7, 2) := by decide +kernel
theorem dX5_goesAhead_94 : decode cX5_goesAhead 94 = .ok (.fload 8, 2) := by decide +kernel
theorem dX5_goesAhead_96 : decode cX5_goesAhead 96 = .ok (.fcmp .l, 1) := by decide +kernel
theorem dX5_goesAhead_97 : decode cX5_goesAhead 97 = .ok (.ifCond .eq 19, 3) := by decide +kernel
theorem dX5_goesAhead_100 : decode cX5_goesAhead 100 = .ok (.fload 7, 2) := by decide +kernel
theorem dX5_goesAhead_102 : decode cX5_goesAhead 102 = .ok (.fload 8, 2) := by decide +kernel
theorem dX5_goesAhead_104 : decode cX5_goesAhead 104 = .ok (.fcmp .l, 1) := by decide +kernel
theorem dX5_goesAhead_105 : decode cX5_goesAhead 105 = .ok (.ifCond .le 7, 3) := by decide +kernel
theorem dX5_goesAhead_108 : decode cX5_goesAhead 108 = .ok (.iconst 1, 1) := by decide +kernel
theorem dX5_goesAhead_109 : decode cX5_goesAhead 109 = .ok (.goto 17, 3) := by decide +kernel
theorem dX5_goesAhead_112 : decode cX5_goesAhead 112 = .ok (.iconst 0, 1) := by decide +kernel
theorem dX5_goesAhead_113 : decode cX5_goesAhead 113 = .ok (.goto 13, 3) := by decide +kernel
theorem dX5_goesAhead_116 : decode cX5_goesAhead 116 = .ok (.iload_n 1, 1) := by decide +kernel
theorem dX5_goesAhead_117 : decode cX5_goesAhead 117 = .ok (.iload_n 2, 1) := by decide +kernel
theorem dX5_goesAhead_118 : decode cX5_goesAhead 118 = .ok (.if_icmp .ge 7, 3) := by decide +kernel
theorem dX5_goesAhead_121 : decode cX5_goesAhead 121 = .ok (.iconst 1, 1) := by decide +kernel
theorem dX5_goesAhead_122 : decode cX5_goesAhead 122 = .ok (.goto 4, 3) := by decide +kernel
theorem dX5_goesAhead_125 : decode cX5_goesAhead 125 = .ok (.iconst 0, 1) := by decide +kernel
theorem dX5_goesAhead_126 : decode cX5_goesAhead 126 = .ok (.ireturn, 1) := by decide +kernel
theorem dX5_planAlone_0 : decode cX5_planAlone 0 = .ok (.aload_n 1, 1) := by decide +kernel
theorem dX5_planAlone_1 : decode cX5_planAlone 1 = .ok (.getfield 131, 3) := by decide +kernel
theorem dX5_planAlone_4 : decode cX5_planAlone 4 = .ok (.iconst (-1), 1) := by decide +kernel
theorem dX5_planAlone_5 : decode cX5_planAlone 5 = .ok (.if_icmp .ne 14, 3) := by decide +kernel
theorem dX5_planAlone_8 : decode cX5_planAlone 8 = .ok (.new 90, 3) := by decide +kernel
theorem dX5_planAlone_11 : decode cX5_planAlone 11 = .ok (.dup, 1) := by decide +kernel
theorem dX5_planAlone_12 : decode cX5_planAlone 12 = .ok (.ldc_w 350, 3) := by decide +kernel
theorem dX5_planAlone_15 : decode cX5_planAlone 15 = .ok (.invokespecial 94, 3) := by decide +kernel
theorem dX5_planAlone_18 : decode cX5_planAlone 18 = .ok (.athrow, 1) := by decide +kernel
theorem dX5_planAlone_19 : decode cX5_planAlone 19 = .ok (.aload_n 0, 1) := by decide +kernel
theorem dX5_planAlone_20 : decode cX5_planAlone 20 = .ok (.getfield 56, 3) := by decide +kernel
theorem dX5_planAlone_23 : decode cX5_planAlone 23 = .ok (.aload_n 1, 1) := by decide +kernel
theorem dX5_planAlone_24 : decode cX5_planAlone 24 = .ok (.getfield 100, 3) := by decide +kernel
theorem dX5_planAlone_27 : decode cX5_planAlone 27 = .ok (.iload_n 2, 1) := by decide +kernel
theorem dX5_planAlone_28 : decode cX5_planAlone 28 = .ok (.iload_n 3, 1) := by decide +kernel
theorem dX5_planAlone_29 : decode cX5_planAlone 29 = .ok (.aload_n 0, 1) := by decide +kernel
theorem dX5_planAlone_30 : decode cX5_planAlone 30 = .ok (.aload_n 1, 1) := by decide +kernel
theorem dX5_planAlone_31 : decode cX5_planAlone 31 = .ok (.invokevirtual 215, 3) := by decide +kernel
theorem dX5_planAlone_34 : decode cX5_planAlone 34 = .ok (.invokevirtual 352, 3) := by decide +kernel
theorem dX5_planAlone_37 : decode cX5_planAlone 37 = .ok (.return_, 1) := by decide +kernel
theorem dX5_planFlight_0 : decode cX5_planFlight 0 = .ok (.aload_n 0, 1) := by decide +kernel
theorem dX5_planFlight_1 : decode cX5_planFlight 1 = .ok (.getfield 49, 3) := by decide +kernel
theorem dX5_planFlight_4 : decode cX5_planFlight 4 = .ok (.aload_n 0, 1) := by decide +kernel
theorem dX5_planFlight_5 : decode cX5_planFlight 5 = .ok (.getfield 39, 3) := by decide +kernel
theorem dX5_planFlight_8 : decode cX5_planFlight 8 = .ok (.putfield 356, 3) := by decide +kernel
theorem dX5_planFlight_11 : decode cX5_planFlight 11 = .ok (.iconst 0, 1) := by decide +kernel
theorem dX5_planFlight_12 : decode cX5_planFlight 12 = .ok (.istore_n 1, 1) := by decide +kernel
theorem dX5_planFlight_13 : decode cX5_planFlight 13 = .ok (.iload_n 1, 1) := by decide +kernel
theorem dX5_planFlight_14 : decode cX5_planFlight 14 = .ok (.aload_n 0, 1) := by decide +kernel
theorem dX5_planFlight_15 : decode cX5_planFlight 15 = .ok (.getfield 39, 3) := by decide +kernel
theorem dX5_planFlight_18 : decode cX5_planFlight 18 = .ok (.if_icmp .ge 47, 3) := by decide +kernel
theorem dX5_planFlight_21 : decode cX5_planFlight 21 = .ok (.aload_n 0, 1) := by decide +kernel
theorem dX5_planFlight_22 : decode cX5_planFlight 22 = .ok (.aload_n 0, 1) := by decide +kernel
theorem dX5_planFlight_23 : decode cX5_planFlight 23 = .ok (.iload_n 1, 1) := by decide +kernel
theorem dX5_planFlight_24 : decode cX5_planFlight 24 = .ok (.invokevirtual 194, 3) := by decide +kernel
theorem dX5_planFlight_27 : decode cX5_planFlight 27 = .ok (.invokevirtual 118, 3) := by decide +kernel
theorem dX5_planFlight_30 : decode cX5_planFlight 30 = .ok (.astore_n 2, 1) := by decide +kernel
theorem dX5_planFlight_31 : decode cX5_planFlight 31 = .ok (.aload_n 0, 1) := by decide +kernel
theorem dX5_planFlight_32 : decode cX5_planFlight 32 = .ok (.getfield 49, 3) := by decide +kernel
theorem dX5_planFlight_35 : decode cX5_planFlight 35 = .ok (.iload_n 1, 1) := by decide +kernel
theorem dX5_planFlight_36 : decode cX5_planFlight 36 = .ok (.invokevirtual 197, 3) := by decide +kernel
theorem dX5_planFlight_39 : decode cX5_planFlight 39 = .ok (.aload_n 2, 1) := by decide +kernel
theorem dX5_planFlight_40 : decode cX5_planFlight 40 = .ok (.getfield 100, 3) := by decide +kernel
theorem dX5_planFlight_43 : decode cX5_planFlight 43 = .ok (.aload_n 2, 1) := by decide +kernel
theorem dX5_planFlight_44 : decode cX5_planFlight 44 = .ok (.getfield 169, 3) := by decide +kernel
theorem dX5_planFlight_47 : decode cX5_planFlight 47 = .ok (.aload_n 2, 1) := by decide +kernel
theorem dX5_planFlight_48 : decode cX5_planFlight 48 = .ok (.getfield 172, 3) := by decide +kernel
theorem dX5_planFlight_51 : decode cX5_planFlight 51 = .ok (.aload_n 0, 1) := by decide +kernel
theorem dX5_planFlight_52 : decode cX5_planFlight 52 = .ok (.aload_n 2, 1) := by decide +kernel
theorem dX5_planFlight_53 : decode cX5_planFlight 53 = .ok (.invokevirtual 215, 3) := by decide +kernel
theorem dX5_planFlight_56 : decode cX5_planFlight 56 = .ok (.invokevirtual 352, 3) := by decide +kernel
theorem dX5_planFlight_59 : decode cX5_planFlight 59 = .ok (.iinc 1 1, 3) := by decide +kernel
theorem dX5_planFlight_62 : decode cX5_planFlight 62 = .ok (.goto (-49), 3) := by decide +kernel
theorem dX5_planFlight_65 : decode cX5_planFlight 65 = .ok (.return_, 1) := by decide +kernel
theorem dX5_drawTroubles_0 : decode cX5_drawTroubles 0 = .ok (.iconst 0, 1) := by decide +kernel
theorem dX5_drawTroubles_1 : decode cX5_drawTroubles 1 = .ok (.istore_n 1, 1) := by decide +kernel
theorem dX5_drawTroubles_2 : decode cX5_drawTroubles 2 = .ok (.iload_n 1, 1) := by decide +kernel
theorem dX5_drawTroubles_3 : decode cX5_drawTroubles 3 = .ok (.aload_n 0, 1) := by decide +kernel
theorem dX5_drawTroubles_4 : decode cX5_drawTroubles 4 = .ok (.getfield 39, 3) := by decide +kernel
theorem dX5_drawTroubles_7 : decode cX5_drawTroubles 7 = .ok (.if_icmp .ge 74, 3) := by decide +kernel
theorem dX5_drawTroubles_10 : decode cX5_drawTroubles 10 = .ok (.aload_n 0, 1) := by decide +kernel
theorem dX5_drawTroubles_11 : decode cX5_drawTroubles 11 = .ok (.aload_n 0, 1) := by decide +kernel
theorem dX5_drawTroubles_12 : decode cX5_drawTroubles 12 = .ok (.aload_n 0, 1) := by decide +kernel
theorem dX5_drawTroubles_13 : decode cX5_drawTroubles 13 = .ok (.iload_n 1, 1) := by decide +kernel
theorem dX5_drawTroubles_14 : decode cX5_drawTroubles 14 = .ok (.invokevirtual 194, 3) := by decide +kernel
theorem dX5_drawTroubles_17 : decode cX5_drawTroubles 17 = .ok (.invokevirtual 118, 3) := by decide +kernel
theorem dX5_drawTroubles_20 : decode cX5_drawTroubles 20 = .ok (.getfield 131, 3) := by decide +kernel
theorem dX5_drawTroubles_23 : decode cX5_drawTroubles 23 = .ok (.invokevirtual 114, 3) := by decide +kernel
theorem dX5_drawTroubles_26 : decode cX5_drawTroubles 26 = .ok (.astore_n 2, 1) := by decide +kernel
theorem dX5_drawTroubles_27 : decode cX5_drawTroubles 27 = .ok (.aload_n 0, 1) := by decide +kernel
theorem dX5_drawTroubles_28 : decode cX5_drawTroubles 28 = .ok (.iconst 5, 1) := by decide +kernel
theorem dX5_drawTroubles_29 : decode cX5_drawTroubles 29 = .ok (.aload_n 0, 1) := by decide +kernel
theorem dX5_drawTroubles_30 : decode cX5_drawTroubles 30 = .ok (.getfield 63, 3) := by decide +kernel
theorem dX5_drawTroubles_33 : decode cX5_drawTroubles 33 = .ok (.imul, 1) := by decide +kernel
theorem dX5_drawTroubles_34 : decode cX5_drawTroubles 34 = .ok (.iconst 3, 1) := by decide +kernel
theorem dX5_drawTroubles_35 : decode cX5_drawTroubles 35 = .ok (.iadd, 1) := by decide +kernel
theorem dX5_drawTroubles_36 : decode cX5_drawTroubles 36 = .ok (.bipush 32, 2) := by decide +kernel
theorem dX5_drawTroubles_38 : decode cX5_drawTroubles 38 = .ok (.irem, 1) := by decide +kernel
theorem dX5_drawTroubles_39 : decode cX5_drawTroubles 39 = .ok (.putfield 63, 3) := by decide +kernel
theorem dX5_drawTroubles_42 : decode cX5_drawTroubles 42 = .ok (.aload_n 0, 1) := by decide +kernel
theorem dX5_drawTroubles_43 : decode cX5_drawTroubles 43 = .ok (.getfield 63, 3) := by decide +kernel
theorem dX5_drawTroubles_46 : decode cX5_drawTroubles 46 = .ok (.bipush 9, 2) := by decide +kernel
theorem dX5_drawTroubles_48 : decode cX5_drawTroubles 48 = .ok (.aload_n 2, 1) := by decide +kernel
theorem dX5_drawTroubles_49 : decode cX5_drawTroubles 49 = .ok (.getfield 148, 3) := by decide +kernel
theorem dX5_drawTroubles_52 : decode cX5_drawTroubles 52 = .ok (.isub, 1) := by decide +kernel
theorem dX5_drawTroubles_53 : decode cX5_drawTroubles 53 = .ok (.aload_n 2, 1) := by decide +kernel
theorem dX5_drawTroubles_54 : decode cX5_drawTroubles 54 = .ok (.getfield 228, 3) := by decide +kernel
theorem dX5_drawTroubles_57 : decode cX5_drawTroubles 57 = .ok (.fconst 2, 1) := by decide +kernel
theorem dX5_drawTroubles_58 : decode cX5_drawTroubles 58 = .ok (.fmul, 1) := by decide +kernel
theorem dX5_drawTroubles_59 : decode cX5_drawTroubles 59 = .ok (.f2i, 1) := by decide +kernel
theorem dX5_drawTroubles_60 : decode cX5_drawTroubles 60 = .ok (.iadd, 1) := by decide +kernel
theorem dX5_drawTroubles_61 : decode cX5_drawTroubles 61 = .ok (.if_icmp .ge 14, 3) := by decide +kernel
theorem dX5_drawTroubles_64 : decode cX5_drawTroubles 64 = .ok (.aload_n 0, 1) := by decide +kernel
theorem dX5_drawTroubles_65 : decode cX5_drawTroubles 65 = .ok (.getfield 49, 3) := by decide +kernel
theorem dX5_drawTroubles_68 : decode cX5_drawTroubles 68 = .ok (.iload_n 1, 1) := by decide +kernel
theorem dX5_drawTroubles_69 : decode cX5_drawTroubles 69 = .ok (.invokevirtual 197, 3) := by decide +kernel
theorem dX5_drawTroubles_72 : decode cX5_drawTroubles 72 = .ok (.invokevirtual 359, 3) := by decide +kernel
theorem dX5_drawTroubles_75 : decode cX5_drawTroubles 75 = .ok (.iinc 1 1, 3) := by decide +kernel
theorem dX5_drawTroubles_78 : decode cX5_drawTroubles 78 = .ok (.goto (-76), 3) := by decide +kernel
theorem dX5_drawTroubles_81 : decode cX5_drawTroubles 81 = .ok (.return_, 1) := by decide +kernel
theorem dX5_pointsFrom_0 : decode cX5_pointsFrom 0 = .ok (.aload_n 0, 1) := by decide +kernel
theorem dX5_pointsFrom_1 : decode cX5_pointsFrom 1 = .ok (.getfield 49, 3) := by decide +kernel
theorem dX5_pointsFrom_4 : decode cX5_pointsFrom 4 = .ok (.iload_n 1, 1) := by decide +kernel
theorem dX5_pointsFrom_5 : decode cX5_pointsFrom 5 = .ok (.iload_n 2, 1) := by decide +kernel
theorem dX5_pointsFrom_6 : decode cX5_pointsFrom 6 = .ok (.aload_n 0, 1) := by decide +kernel
theorem dX5_pointsFrom_7 : decode cX5_pointsFrom 7 = .ok (.getfield 31, 3) := by decide +kernel
theorem dX5_pointsFrom_10 : decode cX5_pointsFrom 10 = .ok (.invokevirtual 186, 3) := by decide +kernel
theorem dX5_pointsFrom_13 : decode cX5_pointsFrom 13 = .ok (.iconst 0, 1) := by decide +kernel
theorem dX5_pointsFrom_14 : decode cX5_pointsFrom 14 = .ok (.istore_n 3, 1) := by decide +kernel
theorem dX5_pointsFrom_15 : decode cX5_pointsFrom 15 = .ok (.iconst 0, 1) := by decide +kernel
theorem dX5_pointsFrom_16 : decode cX5_pointsFrom 16 = .ok (.istore 4, 2) := by decide +kernel
theorem dX5_pointsFrom_18 : decode cX5_pointsFrom 18 = .ok (.iload 4, 2) := by decide +kernel
theorem dX5_pointsFrom_20 : decode cX5_pointsFrom 20 = .ok (.aload_n 0, 1) := by decide +kernel
theorem dX5_pointsFrom_21 : decode cX5_pointsFrom 21 = .ok (.getfield 39, 3) := by decide +kernel
theorem dX5_pointsFrom_24 : decode cX5_pointsFrom 24 = .ok (.if_icmp .ge 38, 3) := by decide +kernel
theorem dX5_pointsFrom_27 : decode cX5_pointsFrom 27 = .ok (.aload_n 0, 1) := by decide +kernel
theorem dX5_pointsFrom_28 : decode cX5_pointsFrom 28 = .ok (.getfield 49, 3) := by decide +kernel
theorem dX5_pointsFrom_31 : decode cX5_pointsFrom 31 = .ok (.iload 4, 2) := by decide +kernel
theorem dX5_pointsFrom_33 : decode cX5_pointsFrom 33 = .ok (.invokevirtual 197, 3) := by decide +kernel
theorem dX5_pointsFrom_36 : decode cX5_pointsFrom 36 = .ok (.astore 5, 2) := by decide +kernel
theorem dX5_pointsFrom_38 : decode cX5_pointsFrom 38 = .ok (.aload 5, 2) := by decide +kernel
theorem dX5_pointsFrom_40 : decode cX5_pointsFrom 40 = .ok (.aload_n 0, 1) := by decide +kernel
theorem dX5_pointsFrom_41 : decode cX5_pointsFrom 41 = .ok (.getfield 31, 3) := by decide +kernel
theorem dX5_pointsFrom_44 : decode cX5_pointsFrom 44 = .ok (.invokevirtual 252, 3) := by decide +kernel
theorem dX5_pointsFrom_47 : decode cX5_pointsFrom 47 = .ok (.pop, 1) := by decide +kernel
theorem dX5_pointsFrom_48 : decode cX5_pointsFrom 48 = .ok (.iload_n 3, 1) := by decide +kernel
theorem dX5_pointsFrom_49 : decode cX5_pointsFrom 49 = .ok (.aload 5, 2) := by decide +kernel
theorem dX5_pointsFrom_51 : decode cX5_pointsFrom 51 = .ok (.invokevirtual 362, 3) := by decide +kernel
theorem dX5_pointsFrom_54 : decode cX5_pointsFrom 54 = .ok (.iadd, 1) := by decide +kernel
theorem dX5_pointsFrom_55 : decode cX5_pointsFrom 55 = .ok (.istore_n 3, 1) := by decide +kernel
theorem dX5_pointsFrom_56 : decode cX5_pointsFrom 56 = .ok (.iinc 4 1, 3) := by decide +kernel
theorem dX5_pointsFrom_59 : decode cX5_pointsFrom 59 = .ok (.goto (-41), 3) := by decide +kernel
theorem dX5_pointsFrom_62 : decode cX5_pointsFrom 62 = .ok (.iload_n 3, 1) := by decide +kernel
theorem dX5_pointsFrom_63 : decode cX5_pointsFrom 63 = .ok (.ireturn, 1) := by decide +kernel
theorem dX5_settle_0 : decode cX5_settle 0 = .ok (.aload_n 0, 1) := by decide +kernel
theorem dX5_settle_1 : decode cX5_settle 1 = .ok (.aload_n 1, 1) := by decide +kernel
theorem dX5_settle_2 : decode cX5_settle 2 = .ok (.getfield 131, 3) := by decide +kernel
theorem dX5_settle_5 : decode cX5_settle 5 = .ok (.invokevirtual 114, 3) := by decide +kernel
theorem dX5_settle_8 : decode cX5_settle 8 = .ok (.astore_n 3, 1) := by decide +kernel
theorem dX5_settle_9 : decode cX5_settle 9 = .ok (.aload_n 3, 1) := by decide +kernel
theorem dX5_settle_10 : decode cX5_settle 10 = .ok (.iconst 0, 1) := by decide +kernel
theorem dX5_settle_11 : decode cX5_settle 11 = .ok (.putfield 134, 3) := by decide +kernel
theorem dX5_settle_14 : decode cX5_settle 14 = .ok (.aload_n 3, 1) := by decide +kernel
theorem dX5_settle_15 : decode cX5_settle 15 = .ok (.dup, 1) := by decide +kernel
theorem dX5_settle_16 : decode cX5_settle 16 = .ok (.getfield 228, 3) := by decide +kernel
theorem dX5_settle_19 : decode cX5_settle 19 = .ok (.aload_n 2, 1) := by decide +kernel
theorem dX5_settle_20 : decode cX5_settle 20 = .ok (.getfield 364, 3) := by decide +kernel
theorem dX5_settle_23 : decode cX5_settle 23 = .ok (.ifCond .eq 9, 3) := by decide +kernel
theorem dX5_settle_26 : decode cX5_settle 26 = .ok (.ldc_w 367, 3) := by decide +kernel
theorem dX5_settle_29 : decode cX5_settle 29 = .ok (.goto 6, 3) := by decide +kernel
theorem dX5_settle_32 : decode cX5_settle 32 = .ok (.ldc_w 368, 3) := by decide +kernel
theorem dX5_settle_35 : decode cX5_settle 35 = .ok (.fadd, 1) := by decide +kernel
theorem dX5_settle_36 : decode cX5_settle 36 = .ok (.putfield 228, 3) := by decide +kernel
theorem dX5_settle_39 : decode cX5_settle 39 = .ok (.aload_n 2, 1) := by decide +kernel
theorem dX5_settle_40 : decode cX5_settle 40 = .ok (.getfield 364, 3) := by decide +kernel
theorem dX5_settle_43 : decode cX5_settle 43 = .ok (.ifCond .eq 33, 3) := by decide +kernel
theorem dX5_settle_46 : decode cX5_settle 46 = .ok (.aload_n 3, 1) := by decide +kernel
theorem dX5_settle_47 : decode cX5_settle 47 = .ok (.aload_n 0, 1) := by decide +kernel
theorem dX5_settle_48 : decode cX5_settle 48 = .ok (.getfield 60, 3) := by decide +kernel
theorem dX5_settle_51 : decode cX5_settle 51 = .ok (.iconst 1, 1) := by decide +kernel
theorem dX5_settle_52 : decode cX5_settle 52 = .ok (.isub, 1) := by decide +kernel
theorem dX5_settle_53 : decode cX5_settle 53 = .ok (.putfield 111, 3) := by decide +kernel
theorem dX5_settle_56 : decode cX5_settle 56 = .ok (.aload_n 1, 1) := by decide +kernel
theorem dX5_settle_57 : decode cX5_settle 57 = .ok (.dup, 1) := by decide +kernel
theorem dX5_settle_58 : decode cX5_settle 58 = .ok (.getfield 209, 3) := by decide +kernel
theorem dX5_settle_61 : decode cX5_settle 61 = .ok (.iconst 1, 1) := by decide +kernel
theorem dX5_settle_62 : decode cX5_settle 62 = .ok (.iadd, 1) := by decide +kernel
theorem dX5_settle_63 : decode cX5_settle 63 = .ok (.putfield 209, 3) := by decide +kernel
theorem dX5_settle_66 : decode cX5_settle 66 = .ok (.aload_n 0, 1) := by decide +kernel
theorem dX5_settle_67 : decode cX5_settle 67 = .ok (.dup, 1) := by decide +kernel
theorem dX5_settle_68 : decode cX5_settle 68 = .ok (.getfield 72, 3) := by decide +kernel
theorem dX5_settle_71 : decode cX5_settle 71 = .ok (.iconst 1, 1) := by decide +kernel
theorem dX5_settle_72 : decode cX5_settle 72 = .ok (.iadd, 1) := by decide +kernel
theorem dX5_settle_73 : decode cX5_settle 73 = .ok (.putfield 72, 3) := by decide +kernel
theorem dX5_settle_76 : decode cX5_settle 76 = .ok (.aload_n 1, 1) := by decide +kernel
theorem dX5_settle_77 : decode cX5_settle 77 = .ok (.aload_n 0, 1) := by decide +kernel
theorem dX5_settle_78 : decode cX5_settle 78 = .ok (.getfield 60, 3) := by decide +kernel
theorem dX5_settle_81 : decode cX5_settle 81 = .ok (.putfield 103, 3) := by decide +kernel
theorem dX5_settle_84 : decode cX5_settle 84 = .ok (.aload_n 1, 1) := by decide +kernel
theorem dX5_settle_85 : decode cX5_settle 85 = .ok (.aload_n 2, 1) := by decide +kernel
theorem dX5_settle_86 : decode cX5_settle 86 = .ok (.getfield 258, 3) := by decide +kernel
theorem dX5_settle_89 : decode cX5_settle 89 = .ok (.putfield 223, 3) := by decide +kernel
theorem dX5_settle_92 : decode cX5_settle 92 = .ok (.aload_n 1, 1) := by decide +kernel
theorem dX5_settle_93 : decode cX5_settle 93 = .ok (.aload_n 2, 1) := by decide +kernel
theorem dX5_settle_94 : decode cX5_settle 94 = .ok (.getfield 255, 3) := by decide +kernel
theorem dX5_settle_97 : decode cX5_settle 97 = .ok (.putfield 219, 3) := by decide +kernel
theorem dX5_settle_100 : decode cX5_settle 100 = .ok (.aload_n 1, 1) := by decide +kernel
theorem dX5_settle_101 : decode cX5_settle 101 = .ok (.dup, 1) := by decide +kernel
theorem dX5_settle_102 : decode cX5_settle 102 = .ok (.getfield 205, 3) := by decide +kernel
theorem dX5_settle_105 : decode cX5_settle 105 = .ok (.iconst 1, 1) := by decide +kernel
theorem dX5_settle_106 : decode cX5_settle 106 = .ok (.iadd, 1) := by decide +kernel
theorem dX5_settle_107 : decode cX5_settle 107 = .ok (.putfield 205, 3) := by decide +kernel
theorem dX5_settle_110 : decode cX5_settle 110 = .ok (.aload_n 0, 1) := by decide +kernel
theorem dX5_settle_111 : decode cX5_settle 111 = .ok (.dup, 1) := by decide +kernel
theorem dX5_settle_112 : decode cX5_settle 112 = .ok (.getfield 69, 3) := by decide +kernel
theorem dX5_settle_115 : decode cX5_settle 115 = .ok (.iconst 1, 1) := by decide +kernel
theorem dX5_settle_116 : decode cX5_settle 116 = .ok (.iadd, 1) := by decide +kernel
theorem dX5_settle_117 : decode cX5_settle 117 = .ok (.putfield 69, 3) := by decide +kernel
theorem dX5_settle_120 : decode cX5_settle 120 = .ok (.aload_n 2, 1) := by decide +kernel
theorem dX5_settle_121 : decode cX5_settle 121 = .ok (.invokevirtual 369, 3) := by decide +kernel
theorem dX5_settle_124 : decode cX5_settle 124 = .ok (.ldc2_w 373, 3) := by decide +kernel
theorem dX5_settle_127 : decode cX5_settle 127 = .ok (.dcmp .l, 1) := by decide +kernel
theorem dX5_settle_128 : decode cX5_settle 128 = .ok (.ifCond .le 13, 3) := by decide +kernel
theorem dX5_settle_131 : decode cX5_settle 131 = .ok (.aload_n 0, 1) := by decide +kernel
theorem dX5_settle_132 : decode cX5_settle 132 = .ok (.dup, 1) := by decide +kernel
theorem dX5_settle_133 : decode cX5_settle 133 = .ok (.getfield 75, 3) := by decide +kernel
theorem dX5_settle_136 : decode cX5_settle 136 = .ok (.iconst 1, 1) := by decide +kernel
theorem dX5_settle_137 : decode cX5_settle 137 = .ok (.iadd, 1) := by decide +kernel
theorem dX5_settle_138 : decode cX5_settle 138 = .ok (.putfield 75, 3) := by decide +kernel
theorem dX5_settle_141 : decode cX5_settle 141 = .ok (.aload_n 2, 1) := by decide +kernel
theorem dX5_settle_142 : decode cX5_settle 142 = .ok (.invokevirtual 362, 3) := by decide +kernel
theorem dX5_settle_145 : decode cX5_settle 145 = .ok (.istore 4, 2) := by decide +kernel
theorem dX5_settle_147 : decode cX5_settle 147 = .ok (.aload_n 1, 1) := by decide +kernel
theorem dX5_settle_148 : decode cX5_settle 148 = .ok (.dup, 1) := by decide +kernel
theorem dX5_settle_149 : decode cX5_settle 149 = .ok (.getfield 206, 3) := by decide +kernel
theorem dX5_settle_152 : decode cX5_settle 152 = .ok (.iload 4, 2) := by decide +kernel
theorem dX5_settle_154 : decode cX5_settle 154 = .ok (.iadd, 1) := by decide +kernel
theorem dX5_settle_155 : decode cX5_settle 155 = .ok (.putfield 206, 3) := by decide +kernel
theorem dX5_settle_158 : decode cX5_settle 158 = .ok (.iload 4, 2) := by decide +kernel
theorem dX5_settle_160 : decode cX5_settle 160 = .ok (.ireturn, 1) := by decide +kernel
theorem dX6_init_0 : decode cX6_init 0 = .ok (.aload_n 0, 1) := by decide +kernel
theorem dX6_init_1 : decode cX6_init 1 = .ok (.aload_n 1, 1) := by decide +kernel
theorem dX6_init_2 : decode cX6_init 2 = .ok (.putfield 3, 3) := by decide +kernel
theorem dX6_init_5 : decode cX6_init 5 = .ok (.aload_n 0, 1) := by decide +kernel
theorem dX6_init_6 : decode cX6_init 6 = .ok (.invokespecial 9, 3) := by decide +kernel
theorem dX6_init_9 : decode cX6_init 9 = .ok (.aload_n 0, 1) := by decide +kernel
theorem dX6_init_10 : decode cX6_init 10 = .ok (.bipush 9, 2) := by decide +kernel
theorem dX6_init_12 : decode cX6_init 12 = .ok (.putfield 15, 3) := by decide +kernel
theorem dX6_init_15 : decode cX6_init 15 = .ok (.aload_n 0, 1) := by decide +kernel
theorem dX6_init_16 : decode cX6_init 16 = .ok (.aload_n 2, 1) := by decide +kernel
theorem dX6_init_17 : decode cX6_init 17 = .ok (.putfield 19, 3) := by decide +kernel
theorem dX6_init_20 : decode cX6_init 20 = .ok (.aload_n 0, 1) := by decide +kernel
theorem dX6_init_21 : decode cX6_init 21 = .ok (.iload_n 3, 1) := by decide +kernel
theorem dX6_init_22 : decode cX6_init 22 = .ok (.putfield 23, 3) := by decide +kernel
theorem dX6_init_25 : decode cX6_init 25 = .ok (.aload_n 0, 1) := by decide +kernel
theorem dX6_init_26 : decode cX6_init 26 = .ok (.iload 4, 2) := by decide +kernel
theorem dX6_init_28 : decode cX6_init 28 = .ok (.putfield 26, 3) := by decide +kernel
theorem dX6_init_31 : decode cX6_init 31 = .ok (.aload_n 0, 1) := by decide +kernel
theorem dX6_init_32 : decode cX6_init 32 = .ok (.iload 5, 2) := by decide +kernel
theorem dX6_init_34 : decode cX6_init 34 = .ok (.putfield 29, 3) := by decide +kernel
theorem dX6_init_37 : decode cX6_init 37 = .ok (.aload_n 0, 1) := by decide +kernel
theorem dX6_init_38 : decode cX6_init 38 = .ok (.dload 6, 2) := by decide +kernel
theorem dX6_init_40 : decode cX6_init 40 = .ok (.putfield 32, 3) := by decide +kernel
theorem dX6_init_43 : decode cX6_init 43 = .ok (.aload_n 0, 1) := by decide +kernel
theorem dX6_init_44 : decode cX6_init 44 = .ok (.aload_n 1, 1) := by decide +kernel
theorem dX6_init_45 : decode cX6_init 45 = .ok (.aload_n 2, 1) := by decide +kernel
theorem dX6_init_46 : decode cX6_init 46 = .ok (.invokevirtual 36, 3) := by decide +kernel
theorem dX6_init_49 : decode cX6_init 49 = .ok (.putfield 40, 3) := by decide +kernel
theorem dX6_init_52 : decode cX6_init 52 = .ok (.return_, 1) := by decide +kernel
theorem dX6_isDown_0 : decode cX6_isDown 0 = .ok (.aload_n 0, 1) := by decide +kernel
theorem dX6_isDown_1 : decode cX6_isDown 1 = .ok (.getfield 15, 3) := by decide +kernel
theorem dX6_isDown_4 : decode cX6_isDown 4 = .ok (.ifCond .ge 7, 3) := by decide +kernel
theorem dX6_isDown_7 : decode cX6_isDown 7 = .ok (.iconst 1, 1) := by decide +kernel
theorem dX6_isDown_8 : decode cX6_isDown 8 = .ok (.goto 4, 3) := by decide +kernel
theorem dX6_isDown_11 : decode cX6_isDown 11 = .ok (.iconst 0, 1) := by decide +kernel
theorem dX6_isDown_12 : decode cX6_isDown 12 = .ok (.ireturn, 1) := by decide +kernel
theorem dX6_stay_0 : decode cX6_stay 0 = .ok (.aload_n 0, 1) := by decide +kernel
theorem dX6_stay_1 : decode cX6_stay 1 = .ok (.getfield 43, 3) := by decide +kernel
theorem dX6_stay_4 : decode cX6_stay 4 = .ok (.ifCond .eq 14, 3) := by decide +kernel
theorem dX6_stay_7 : decode cX6_stay 7 = .ok (.aload_n 0, 1) := by decide +kernel
theorem dX6_stay_8 : decode cX6_stay 8 = .ok (.getfield 47, 3) := by decide +kernel
theorem dX6_stay_11 : decode cX6_stay 11 = .ok (.ifCond .eq 7, 3) := by decide +kernel
theorem dX6_stay_14 : decode cX6_stay 14 = .ok (.iconst 4, 1) := by decide +kernel
theorem dX6_stay_15 : decode cX6_stay 15 = .ok (.goto 35, 3) := by decide +kernel
theorem dX6_stay_18 : decode cX6_stay 18 = .ok (.aload_n 0, 1) := by decide +kernel
theorem dX6_stay_19 : decode cX6_stay 19 = .ok (.getfield 47, 3) := by decide +kernel
theorem dX6_stay_22 : decode cX6_stay 22 = .ok (.ifCond .eq 16, 3) := by decide +kernel
theorem dX6_stay_25 : decode cX6_stay 25 = .ok (.iconst 1, 1) := by decide +kernel
theorem dX6_stay_26 : decode cX6_stay 26 = .ok (.ldc 50, 2) := by decide +kernel
theorem dX6_stay_28 : decode cX6_stay 28 = .ok (.aload_n 0, 1) := by decide +kernel
theorem dX6_stay_29 : decode cX6_stay 29 = .ok (.getfield 40, 3) := by decide +kernel
theorem dX6_stay_32 : decode cX6_stay 32 = .ok (.fdiv, 1) := by decide +kernel
theorem dX6_stay_33 : decode cX6_stay 33 = .ok (.f2i, 1) := by decide +kernel
theorem dX6_stay_34 : decode cX6_stay 34 = .ok (.iadd, 1) := by decide +kernel
theorem dX6_stay_35 : decode cX6_stay 35 = .ok (.goto 15, 3) := by decide +kernel
theorem dX6_stay_38 : decode cX6_stay 38 = .ok (.aload_n 0, 1) := by decide +kernel
theorem dX6_stay_39 : decode cX6_stay 39 = .ok (.getfield 23, 3) := by decide +kernel
theorem dX6_stay_42 : decode cX6_stay 42 = .ok (.ifCond .ne 7, 3) := by decide +kernel
theorem dX6_stay_45 : decode cX6_stay 45 = .ok (.iconst 2, 1) := by decide +kernel
theorem dX6_stay_46 : decode cX6_stay 46 = .ok (.goto 4, 3) := by decide +kernel
theorem dX6_stay_49 : decode cX6_stay 49 = .ok (.iconst 1, 1) := by decide +kernel
theorem dX6_stay_50 : decode cX6_stay 50 = .ok (.ireturn, 1) := by decide +kernel
theorem dX6_forward_0 : decode cX6_forward 0 = .ok (.aload_n 0, 1) := by decide +kernel
theorem dX6_forward_1 : decode cX6_forward 1 = .ok (.getfield 43, 3) := by decide +kernel
theorem dX6_forward_4 : decode cX6_forward 4 = .ok (.ifCond .eq 9, 3) := by decide +kernel
theorem dX6_forward_7 : decode cX6_forward 7 = .ok (.ldc2_w 51, 3) := by decide +kernel
theorem dX6_forward_10 : decode cX6_forward 10 = .ok (.goto 38, 3) := by decide +kernel
theorem dX6_forward_13 : decode cX6_forward 13 = .ok (.aload_n 0, 1) := by decide +kernel
theorem dX6_forward_14 : decode cX6_forward 14 = .ok (.getfield 19, 3) := by decide +kernel
theorem dX6_forward_17 : decode cX6_forward 17 = .ok (.getfield 53, 3) := by decide +kernel
theorem dX6_forward_20 : decode cX6_forward 20 = .ok (.ifCond .ne 19, 3) := by decide +kernel
theorem dX6_forward_23 : decode cX6_forward 23 = .ok (.ldc2_w 58, 3) := by decide +kernel
theorem dX6_forward_26 : decode cX6_forward 26 = .ok (.aload_n 0, 1) := by decide +kernel
theorem dX6_forward_27 : decode cX6_forward 27 = .ok (.getfield 40, 3) := by decide +kernel
theorem dX6_forward_30 : decode cX6_forward 30 = .ok (.f2d, 1) := by decide +kernel
theorem dX6_forward_31 : decode cX6_forward 31 = .ok (.dadd, 1) := by decide +kernel
theorem dX6_forward_32 : decode cX6_forward 32 = .ok (.ldc2_w 60, 3) := by decide +kernel
theorem dX6_forward_35 : decode cX6_forward 35 = .ok (.ddiv, 1) := by decide +kernel
theorem dX6_forward_36 : decode cX6_forward 36 = .ok (.goto 12, 3) := by decide +kernel
theorem dX6_forward_39 : decode cX6_forward 39 = .ok (.ldc2_w 58, 3) := by decide +kernel
theorem dX6_forward_42 : decode cX6_forward 42 = .ok (.aload_n 0, 1) := by decide +kernel
theorem dX6_forward_43 : decode cX6_forward 43 = .ok (.getfield 40, 3) := by decide +kernel
theorem dX6_forward_46 : decode cX6_forward 46 = .ok (.f2d, 1) := by decide +kernel
theorem dX6_forward_47 : decode cX6_forward 47 = .ok (.dadd, 1) := by decide +kernel
theorem dX6_forward_48 : decode cX6_forward 48 = .ok (.dreturn, 1) := by decide +kernel
theorem dX6_tick_0 : decode cX6_tick 0 = .ok (.aload_n 0, 1) := by decide +kernel
theorem dX6_tick_1 : decode cX6_tick 1 = .ok (.getfield 47, 3) := by decide +kernel
theorem dX6_tick_4 : decode cX6_tick 4 = .ok (.ifCond .eq 10, 3) := by decide +kernel
theorem dX6_tick_7 : decode cX6_tick 7 = .ok (.aload_n 0, 1) := by decide +kernel
theorem dX6_tick_8 : decode cX6_tick 8 = .ok (.invokevirtual 62, 3) := by decide +kernel
theorem dX6_tick_11 : decode cX6_tick 11 = .ok (.goto 55, 3) := by decide +kernel
theorem dX6_tick_14 : decode cX6_tick 14 = .ok (.aload_n 0, 1) := by decide +kernel
theorem dX6_tick_15 : decode cX6_tick 15 = .ok (.dup, 1) := by decide +kernel
theorem dX6_tick_16 : decode cX6_tick 16 = .ok (.getfield 32, 3) := by decide +kernel
theorem dX6_tick_19 : decode cX6_tick 19 = .ok (.aload_n 0, 1) := by decide +kernel
theorem dX6_tick_20 : decode cX6_tick 20 = .ok (.getfield 3, 3) := by decide +kernel
theorem dX6_tick_23 : decode cX6_tick 23 = .ok (.getfield 65, 3) := by decide +kernel
theorem dX6_tick_26 : decode cX6_tick 26 = .ok (.aload_n 0, 1) := by decide +kernel
theorem dX6_tick_27 : decode cX6_tick 27 = .ok (.getfield 15, 3) := by decide +kernel
theorem dX6_tick_30 : decode cX6_tick 30 = .ok (.iaload, 1) := by decide +kernel
theorem dX6_tick_31 : decode cX6_tick 31 = .ok (.i2d, 1) := by decide +kernel
theorem dX6_tick_32 : decode cX6_tick 32 = .ok (.ldc2_w 69, 3) := by decide +kernel
theorem dX6_tick_35 : decode cX6_tick 35 = .ok (.dmul, 1) := by decide +kernel
theorem dX6_tick_36 : decode cX6_tick 36 = .ok (.dadd, 1) := by decide +kernel
theorem dX6_tick_37 : decode cX6_tick 37 = .ok (.putfield 32, 3) := by decide +kernel
theorem dX6_tick_40 : decode cX6_tick 40 = .ok (.aload_n 0, 1) := by decide +kernel
theorem dX6_tick_41 : decode cX6_tick 41 = .ok (.dup, 1) := by decide +kernel
theorem dX6_tick_42 : decode cX6_tick 42 = .ok (.getfield 71, 3) := by decide +kernel
theorem dX6_tick_45 : decode cX6_tick 45 = .ok (.aload_n 0, 1) := by decide +kernel
theorem dX6_tick_46 : decode cX6_tick 46 = .ok (.getfield 3, 3) := by decide +kernel
theorem dX6_tick_49 : decode cX6_tick 49 = .ok (.getfield 74, 3) := by decide +kernel
theorem dX6_tick_52 : decode cX6_tick 52 = .ok (.aload_n 0, 1) := by decide +kernel
theorem dX6_tick_53 : decode cX6_tick 53 = .ok (.getfield 15, 3) := by decide +kernel
theorem dX6_tick_56 : decode cX6_tick 56 = .ok (.iaload, 1) := by decide +kernel
theorem dX6_tick_57 : decode cX6_tick 57 = .ok (.i2d, 1) := by decide +kernel
theorem dX6_tick_58 : decode cX6_tick 58 = .ok (.ldc2_w 69, 3) := by decide +kernel
theorem dX6_tick_61 : decode cX6_tick 61 = .ok (.dmul, 1) := by decide +kernel
theorem dX6_tick_62 : decode cX6_tick 62 = .ok (.dadd, 1) := by decide +kernel
theorem dX6_tick_63 : decode cX6_tick 63 = .ok (.putfield 71, 3) := by decide +kernel
theorem dX6_tick_66 : decode cX6_tick 66 = .ok (.aload_n 0, 1) := by decide +kernel
theorem dX6_tick_67 : decode cX6_tick 67 = .ok (.dup, 1) := by decide +kernel
theorem dX6_tick_68 : decode cX6_tick 68 = .ok (.getfield 77, 3) := by decide +kernel
theorem dX6_tick_71 : decode cX6_tick 71 = .ok (.iconst 1, 1) := by decide +kernel
theorem dX6_tick_72 : decode cX6_tick 72 = .ok (.iadd, 1) := by decide +kernel
theorem dX6_tick_73 : decode cX6_tick 73 = .ok (.putfield 77, 3) := by decide +kernel
theorem dX6_tick_76 : decode cX6_tick 76 = .ok (.aload_n 0, 1) := by decide +kernel
theorem dX6_tick_77 : decode cX6_tick 77 = .ok (.getfield 77, 3) := by decide +kernel
theorem dX6_tick_80 : decode cX6_tick 80 = .ok (.aload_n 0, 1) := by decide +kernel
theorem dX6_tick_81 : decode cX6_tick 81 = .ok (.invokevirtual 80, 3) := by decide +kernel
theorem dX6_tick_84 : decode cX6_tick 84 = .ok (.if_icmp .ge 4, 3) := by decide +kernel
theorem dX6_tick_87 : decode cX6_tick 87 = .ok (.return_, 1) := by decide +kernel
theorem dX6_tick_88 : decode cX6_tick 88 = .ok (.aload_n 0, 1) := by decide +kernel
theorem dX6_tick_89 : decode cX6_tick 89 = .ok (.iconst 0, 1) := by decide +kernel
theorem dX6_tick_90 : decode cX6_tick 90 = .ok (.putfield 77, 3) := by decide +kernel
theorem dX6_tick_93 : decode cX6_tick 93 = .ok (.aload_n 0, 1) := by decide +kernel
theorem dX6_tick_94 : decode cX6_tick 94 = .ok (.dup, 1) := by decide +kernel
theorem dX6_tick_95 : decode cX6_tick 95 = .ok (.getfield 15, 3) := by decide +kernel
theorem dX6_tick_98 : decode cX6_tick 98 = .ok (.iconst 1, 1) := by decide +kernel
theorem dX6_tick_99 : decode cX6_tick 99 = .ok (.isub, 1) := by decide +kernel
theorem dX6_tick_100 : decode cX6_tick 100 = .ok (.putfield 15, 3) := by decide +kernel
theorem dX6_tick_103 : decode cX6_tick 103 = .ok (.aload_n 0, 1) := by decide +kernel
theorem dX6_tick_104 : decode cX6_tick 104 = .ok (.getfield 47, 3) := by decide +kernel
theorem dX6_tick_107 : decode cX6_tick 107 = .ok (.ifCond .ne 14, 3) := by decide +kernel
theorem dX6_tick_110 : decode cX6_tick 110 = .ok (.aload_n 0, 1) := by decide +kernel
theorem dX6_tick_111 : decode cX6_tick 111 = .ok (.getfield 15, 3) := by decide +kernel
theorem dX6_tick_114 : decode cX6_tick 114 = .ok (.aload_n 0, 1) := by decide +kernel
theorem dX6_tick_115 : decode cX6_tick 115 = .ok (.getfield 26, 3) := by decide +kernel
theorem dX6_tick_118 : decode cX6_tick 118 = .ok (.if_icmp .eq 4, 3) := by decide +kernel
theorem dX6_tick_121 : decode cX6_tick 121 = .ok (.return_, 1) := by decide +kernel
theorem dX6_tick_122 : decode cX6_tick 122 = .ok (.aload_n 0, 1) := by decide +kernel
theorem dX6_tick_123 : decode cX6_tick 123 = .ok (.getfield 84, 3) := by decide +kernel
theorem dX6_tick_126 : decode cX6_tick 126 = .ok (.ifCond .eq 28, 3) := by decide +kernel
theorem dX6_tick_129 : decode cX6_tick 129 = .ok (.aload_n 0, 1) := by decide +kernel
theorem dX6_tick_130 : decode cX6_tick 130 = .ok (.getfield 43, 3) := by decide +kernel
theorem dX6_tick_133 : decode cX6_tick 133 = .ok (.ifCond .ne 21, 3) := by decide +kernel
theorem dX6_tick_136 : decode cX6_tick 136 = .ok (.aload_n 0, 1) := by decide +kernel
theorem dX6_tick_137 : decode cX6_tick 137 = .ok (.iconst 1, 1) := by decide +kernel
theorem dX6_tick_138 : decode cX6_tick 138 = .ok (.putfield 43, 3) := by decide +kernel
theorem dX6_tick_141 : decode cX6_tick 141 = .ok (.aload_n 0, 1) := by decide +kernel
theorem dX6_tick_142 : decode cX6_tick 142 = .ok (.dup, 1) := by decide +kernel
theorem dX6_tick_143 : decode cX6_tick 143 = .ok (.getfield 26, 3) := by decide +kernel
theorem dX6_tick_146 : decode cX6_tick 146 = .ok (.iconst 1, 1) := by decide +kernel
theorem dX6_tick_147 : decode cX6_tick 147 = .ok (.isub, 1) := by decide +kernel
theorem dX6_tick_148 : decode cX6_tick 148 = .ok (.putfield 26, 3) := by decide +kernel
theorem dX6_tick_151 : decode cX6_tick 151 = .ok (.goto 8, 3) := by decide +kernel
theorem dX6_tick_154 : decode cX6_tick 154 = .ok (.aload_n 0, 1) := by decide +kernel
theorem dX6_tick_155 : decode cX6_tick 155 = .ok (.iconst 1, 1) := by decide +kernel
theorem dX6_tick_156 : decode cX6_tick 156 = .ok (.putfield 47, 3) := by decide +kernel
theorem dX6_tick_159 : decode cX6_tick 159 = .ok (.return_, 1) := by decide +kernel
theorem dX6_steer_0 : decode cX6_steer 0 = .ok (.aload_n 0, 1) := by decide +kernel
theorem dX6_steer_1 : decode cX6_steer 1 = .ok (.dup, 1) := by decide +kernel
theorem dX6_steer_2 : decode cX6_steer 2 = .ok (.getfield 32, 3) := by decide +kernel
theorem dX6_steer_5 : decode cX6_steer 5 = .ok (.aload_n 0, 1) := by decide +kernel
theorem dX6_steer_6 : decode cX6_steer 6 = .ok (.getfield 3, 3) := by decide +kernel
theorem dX6_steer_9 : decode cX6_steer 9 = .ok (.getfield 65, 3) := by decide +kernel
theorem dX6_steer_12 : decode cX6_steer 12 = .ok (.aload_n 0, 1) := by decide +kernel
theorem dX6_steer_13 : decode cX6_steer 13 = .ok (.getfield 15, 3) := by decide +kernel
theorem dX6_steer_16 : decode cX6_steer 16 = .ok (.iaload, 1) := by decide +kernel
theorem dX6_steer_17 : decode cX6_steer 17 = .ok (.i2d, 1) := by decide +kernel
theorem dX6_steer_18 : decode cX6_steer 18 = .ok (.dadd, 1) := by decide +kernel
theorem dX6_steer_19 : decode cX6_steer 19 = .ok (.putfield 32, 3) := by decide +kernel
theorem dX6_steer_22 : decode cX6_steer 22 = .ok (.aload_n 0, 1) := by decide +kernel
theorem dX6_steer_23 : decode cX6_steer 23 = .ok (.dup, 1) := by decide +kernel
theorem dX6_steer_24 : decode cX6_steer 24 = .ok (.getfield 71, 3) := by decide +kernel
theorem dX6_steer_27 : decode cX6_steer 27 = .ok (.aload_n 0, 1) := by decide +kernel
theorem dX6_steer_28 : decode cX6_steer 28 = .ok (.getfield 3, 3) := by decide +kernel
theorem dX6_steer_31 : decode cX6_steer 31 = .ok (.getfield 74, 3) := by decide +kernel
theorem dX6_steer_34 : decode cX6_steer 34 = .ok (.aload_n 0, 1) := by decide +kernel
theorem dX6_steer_35 : decode cX6_steer 35 = .ok (.getfield 15, 3) := by decide +kernel
theorem dX6_steer_38 : decode cX6_steer 38 = .ok (.iaload, 1) := by decide +kernel
theorem dX6_steer_39 : decode cX6_steer 39 = .ok (.i2d, 1) := by decide +kernel
end
section
theorem dX6_steer_40 : decode cX6_steer 40 = .ok (.dadd, 1) := by decide +kernel
theorem dX6_steer_41 : decode cX6_steer 41 = .ok (.putfield 71, 3) := by decide +kernel
theorem dX6_steer_44 : decode cX6_steer 44 = .ok (.aload_n 0, 1) := by decide +kernel
theorem dX6_steer_45 : decode cX6_steer 45 = .ok (.getfield 32, 3) := by decide +kernel
theorem dX6_steer_48 : decode cX6_steer 48 = .ok (.invokestatic 87, 3) := by decide +kernel
theorem dX6_steer_51 : decode cX6_steer 51 = .ok (.aload_n 0, 1) := by decide +kernel
theorem dX6_steer_52 : decode cX6_steer 52 = .ok (.getfield 71, 3) := by decide +kernel
theorem dX6_steer_55 : decode cX6_steer 55 = .ok (.invokestatic 87, 3) := by decide +kernel
theorem dX6_steer_58 : decode cX6_steer 58 = .ok (.dcmp .l, 1) := by decide +kernel
theorem dX6_steer_59 : decode cX6_steer 59 = .ok (.ifCond .lt 22, 3) := by decide +kernel
theorem dX6_steer_62 : decode cX6_steer 62 = .ok (.aload_n 0, 1) := by decide +kernel
theorem dX6_steer_63 : decode cX6_steer 63 = .ok (.aload_n 0, 1) := by decide +kernel
theorem dX6_steer_64 : decode cX6_steer 64 = .ok (.aload_n 0, 1) := by decide +kernel
theorem dX6_steer_65 : decode cX6_steer 65 = .ok (.getfield 32, 3) := by decide +kernel
theorem dX6_steer_68 : decode cX6_steer 68 = .ok (.aload_n 0, 1) := by decide +kernel
theorem dX6_steer_69 : decode cX6_steer 69 = .ok (.invokevirtual 93, 3) := by decide +kernel
theorem dX6_steer_72 : decode cX6_steer 72 = .ok (.invokevirtual 97, 3) := by decide +kernel
theorem dX6_steer_75 : decode cX6_steer 75 = .ok (.putfield 32, 3) := by decide +kernel
theorem dX6_steer_78 : decode cX6_steer 78 = .ok (.goto 19, 3) := by decide +kernel
theorem dX6_steer_81 : decode cX6_steer 81 = .ok (.aload_n 0, 1) := by decide +kernel
theorem dX6_steer_82 : decode cX6_steer 82 = .ok (.aload_n 0, 1) := by decide +kernel
theorem dX6_steer_83 : decode cX6_steer 83 = .ok (.aload_n 0, 1) := by decide +kernel
theorem dX6_steer_84 : decode cX6_steer 84 = .ok (.getfield 71, 3) := by decide +kernel
theorem dX6_steer_87 : decode cX6_steer 87 = .ok (.aload_n 0, 1) := by decide +kernel
theorem dX6_steer_88 : decode cX6_steer 88 = .ok (.invokevirtual 93, 3) := by decide +kernel
theorem dX6_steer_91 : decode cX6_steer 91 = .ok (.invokevirtual 97, 3) := by decide +kernel
theorem dX6_steer_94 : decode cX6_steer 94 = .ok (.putfield 71, 3) := by decide +kernel
theorem dX6_steer_97 : decode cX6_steer 97 = .ok (.return_, 1) := by decide +kernel
theorem dX6_nearer_0 : decode cX6_nearer 0 = .ok (.dload_n 1, 1) := by decide +kernel
theorem dX6_nearer_1 : decode cX6_nearer 1 = .ok (.dconst 0, 1) := by decide +kernel
theorem dX6_nearer_2 : decode cX6_nearer 2 = .ok (.dcmp .l, 1) := by decide +kernel
theorem dX6_nearer_3 : decode cX6_nearer 3 = .ok (.ifCond .le 13, 3) := by decide +kernel
theorem dX6_nearer_6 : decode cX6_nearer 6 = .ok (.dconst 0, 1) := by decide +kernel
theorem dX6_nearer_7 : decode cX6_nearer 7 = .ok (.dload_n 1, 1) := by decide +kernel
theorem dX6_nearer_8 : decode cX6_nearer 8 = .ok (.dload_n 3, 1) := by decide +kernel
theorem dX6_nearer_9 : decode cX6_nearer 9 = .ok (.dsub, 1) := by decide +kernel
theorem dX6_nearer_10 : decode cX6_nearer 10 = .ok (.invokestatic 101, 3) := by decide +kernel
theorem dX6_nearer_13 : decode cX6_nearer 13 = .ok (.goto 10, 3) := by decide +kernel
theorem dX6_nearer_16 : decode cX6_nearer 16 = .ok (.dconst 0, 1) := by decide +kernel
theorem dX6_nearer_17 : decode cX6_nearer 17 = .ok (.dload_n 1, 1) := by decide +kernel
theorem dX6_nearer_18 : decode cX6_nearer 18 = .ok (.dload_n 3, 1) := by decide +kernel
theorem dX6_nearer_19 : decode cX6_nearer 19 = .ok (.dadd, 1) := by decide +kernel
theorem dX6_nearer_20 : decode cX6_nearer 20 = .ok (.invokestatic 104, 3) := by decide +kernel
theorem dX6_nearer_23 : decode cX6_nearer 23 = .ok (.dreturn, 1) := by decide +kernel
theorem dX6_far_0 : decode cX6_far 0 = .ok (.aload_n 0, 1) := by decide +kernel
theorem dX6_far_1 : decode cX6_far 1 = .ok (.getfield 32, 3) := by decide +kernel
theorem dX6_far_4 : decode cX6_far 4 = .ok (.invokestatic 87, 3) := by decide +kernel
theorem dX6_far_7 : decode cX6_far 7 = .ok (.aload_n 0, 1) := by decide +kernel
theorem dX6_far_8 : decode cX6_far 8 = .ok (.getfield 71, 3) := by decide +kernel
theorem dX6_far_11 : decode cX6_far 11 = .ok (.invokestatic 87, 3) := by decide +kernel
theorem dX6_far_14 : decode cX6_far 14 = .ok (.invokestatic 101, 3) := by decide +kernel
theorem dX6_far_17 : decode cX6_far 17 = .ok (.dreturn, 1) := by decide +kernel
theorem dX6_points_0 : decode cX6_points 0 = .ok (.aload_n 0, 1) := by decide +kernel
theorem dX6_points_1 : decode cX6_points 1 = .ok (.invokevirtual 107, 3) := by decide +kernel
theorem dX6_points_4 : decode cX6_points 4 = .ok (.ldc2_w 110, 3) := by decide +kernel
theorem dX6_points_7 : decode cX6_points 7 = .ok (.dcmp .g, 1) := by decide +kernel
theorem dX6_points_8 : decode cX6_points 8 = .ok (.ifCond .gt 7, 3) := by decide +kernel
theorem dX6_points_11 : decode cX6_points 11 = .ok (.iconst 3, 1) := by decide +kernel
theorem dX6_points_12 : decode cX6_points 12 = .ok (.goto 19, 3) := by decide +kernel
theorem dX6_points_15 : decode cX6_points 15 = .ok (.aload_n 0, 1) := by decide +kernel
theorem dX6_points_16 : decode cX6_points 16 = .ok (.invokevirtual 107, 3) := by decide +kernel
theorem dX6_points_19 : decode cX6_points 19 = .ok (.ldc2_w 112, 3) := by decide +kernel
theorem dX6_points_22 : decode cX6_points 22 = .ok (.dcmp .g, 1) := by decide +kernel
theorem dX6_points_23 : decode cX6_points 23 = .ok (.ifCond .gt 7, 3) := by decide +kernel
theorem dX6_points_26 : decode cX6_points 26 = .ok (.iconst 1, 1) := by decide +kernel
theorem dX6_points_27 : decode cX6_points 27 = .ok (.goto 4, 3) := by decide +kernel
theorem dX6_points_30 : decode cX6_points 30 = .ok (.iconst 0, 1) := by decide +kernel
theorem dX6_points_31 : decode cX6_points 31 = .ok (.ireturn, 1) := by decide +kernel
theorem dX6_meets_0 : decode cX6_meets 0 = .ok (.aload_n 0, 1) := by decide +kernel
theorem dX6_meets_1 : decode cX6_meets 1 = .ok (.getfield 47, 3) := by decide +kernel
theorem dX6_meets_4 : decode cX6_meets 4 = .ok (.ifCond .eq 70, 3) := by decide +kernel
theorem dX6_meets_7 : decode cX6_meets 7 = .ok (.aload_n 1, 1) := by decide +kernel
theorem dX6_meets_8 : decode cX6_meets 8 = .ok (.getfield 47, 3) := by decide +kernel
theorem dX6_meets_11 : decode cX6_meets 11 = .ok (.ifCond .eq 63, 3) := by decide +kernel
theorem dX6_meets_14 : decode cX6_meets 14 = .ok (.aload_n 0, 1) := by decide +kernel
theorem dX6_meets_15 : decode cX6_meets 15 = .ok (.invokevirtual 114, 3) := by decide +kernel
theorem dX6_meets_18 : decode cX6_meets 18 = .ok (.ifCond .ne 56, 3) := by decide +kernel
theorem dX6_meets_21 : decode cX6_meets 21 = .ok (.aload_n 0, 1) := by decide +kernel
theorem dX6_meets_22 : decode cX6_meets 22 = .ok (.getfield 15, 3) := by decide +kernel
theorem dX6_meets_25 : decode cX6_meets 25 = .ok (.aload_n 1, 1) := by decide +kernel
theorem dX6_meets_26 : decode cX6_meets 26 = .ok (.getfield 15, 3) := by decide +kernel
theorem dX6_meets_29 : decode cX6_meets 29 = .ok (.if_icmp .ne 45, 3) := by decide +kernel
theorem dX6_meets_32 : decode cX6_meets 32 = .ok (.aload_n 0, 1) := by decide +kernel
theorem dX6_meets_33 : decode cX6_meets 33 = .ok (.getfield 32, 3) := by decide +kernel
theorem dX6_meets_36 : decode cX6_meets 36 = .ok (.aload_n 1, 1) := by decide +kernel
theorem dX6_meets_37 : decode cX6_meets 37 = .ok (.getfield 32, 3) := by decide +kernel
theorem dX6_meets_40 : decode cX6_meets 40 = .ok (.dsub, 1) := by decide +kernel
theorem dX6_meets_41 : decode cX6_meets 41 = .ok (.invokestatic 87, 3) := by decide +kernel
theorem dX6_meets_44 : decode cX6_meets 44 = .ok (.ldc2_w 118, 3) := by decide +kernel
theorem dX6_meets_47 : decode cX6_meets 47 = .ok (.dcmp .g, 1) := by decide +kernel
theorem dX6_meets_48 : decode cX6_meets 48 = .ok (.ifCond .ge 26, 3) := by decide +kernel
theorem dX6_meets_51 : decode cX6_meets 51 = .ok (.aload_n 0, 1) := by decide +kernel
theorem dX6_meets_52 : decode cX6_meets 52 = .ok (.getfield 71, 3) := by decide +kernel
theorem dX6_meets_55 : decode cX6_meets 55 = .ok (.aload_n 1, 1) := by decide +kernel
theorem dX6_meets_56 : decode cX6_meets 56 = .ok (.getfield 71, 3) := by decide +kernel
theorem dX6_meets_59 : decode cX6_meets 59 = .ok (.dsub, 1) := by decide +kernel
theorem dX6_meets_60 : decode cX6_meets 60 = .ok (.invokestatic 87, 3) := by decide +kernel
theorem dX6_meets_63 : decode cX6_meets 63 = .ok (.ldc2_w 118, 3) := by decide +kernel
theorem dX6_meets_66 : decode cX6_meets 66 = .ok (.dcmp .g, 1) := by decide +kernel
theorem dX6_meets_67 : decode cX6_meets 67 = .ok (.ifCond .ge 7, 3) := by decide +kernel
theorem dX6_meets_70 : decode cX6_meets 70 = .ok (.iconst 1, 1) := by decide +kernel
theorem dX6_meets_71 : decode cX6_meets 71 = .ok (.goto 4, 3) := by decide +kernel
theorem dX6_meets_74 : decode cX6_meets 74 = .ok (.iconst 0, 1) := by decide +kernel
theorem dX6_meets_75 : decode cX6_meets 75 = .ok (.ireturn, 1) := by decide +kernel
theorem dX7_init_0 : decode cX7_init 0 = .ok (.aload_n 0, 1) := by decide +kernel
theorem dX7_init_1 : decode cX7_init 1 = .ok (.invokespecial 3, 3) := by decide +kernel
theorem dX7_init_4 : decode cX7_init 4 = .ok (.aload_n 0, 1) := by decide +kernel
theorem dX7_init_5 : decode cX7_init 5 = .ok (.iconst (-1), 1) := by decide +kernel
theorem dX7_init_6 : decode cX7_init 6 = .ok (.putfield 9, 3) := by decide +kernel
theorem dX7_init_9 : decode cX7_init 9 = .ok (.aload_n 0, 1) := by decide +kernel
theorem dX7_init_10 : decode cX7_init 10 = .ok (.iconst (-1), 1) := by decide +kernel
theorem dX7_init_11 : decode cX7_init 11 = .ok (.putfield 15, 3) := by decide +kernel
theorem dX7_init_14 : decode cX7_init 14 = .ok (.aload_n 0, 1) := by decide +kernel
theorem dX7_init_15 : decode cX7_init 15 = .ok (.iload_n 1, 1) := by decide +kernel
theorem dX7_init_16 : decode cX7_init 16 = .ok (.putfield 18, 3) := by decide +kernel
theorem dX7_init_19 : decode cX7_init 19 = .ok (.aload_n 0, 1) := by decide +kernel
theorem dX7_init_20 : decode cX7_init 20 = .ok (.iload_n 2, 1) := by decide +kernel
theorem dX7_init_21 : decode cX7_init 21 = .ok (.putfield 21, 3) := by decide +kernel
theorem dX7_init_24 : decode cX7_init 24 = .ok (.aload_n 0, 1) := by decide +kernel
theorem dX7_init_25 : decode cX7_init 25 = .ok (.iload_n 3, 1) := by decide +kernel
theorem dX7_init_26 : decode cX7_init 26 = .ok (.putfield 24, 3) := by decide +kernel
theorem dX7_init_29 : decode cX7_init 29 = .ok (.return_, 1) := by decide +kernel
theorem dX8_init_0 : decode cX8_init 0 = .ok (.aload_n 0, 1) := by decide +kernel
theorem dX8_init_1 : decode cX8_init 1 = .ok (.invokespecial 1, 3) := by decide +kernel
theorem dX8_init_4 : decode cX8_init 4 = .ok (.aload_n 0, 1) := by decide +kernel
theorem dX8_init_5 : decode cX8_init 5 = .ok (.iload_n 1, 1) := by decide +kernel
theorem dX8_init_6 : decode cX8_init 6 = .ok (.putfield 7, 3) := by decide +kernel
theorem dX8_init_9 : decode cX8_init 9 = .ok (.aload_n 0, 1) := by decide +kernel
theorem dX8_init_10 : decode cX8_init 10 = .ok (.iload_n 2, 1) := by decide +kernel
theorem dX8_init_11 : decode cX8_init 11 = .ok (.putfield 13, 3) := by decide +kernel
theorem dX8_init_14 : decode cX8_init 14 = .ok (.return_, 1) := by decide +kernel
theorem dX9_init_0 : decode cX9_init 0 = .ok (.aload_n 0, 1) := by decide +kernel
theorem dX9_init_1 : decode cX9_init 1 = .ok (.invokespecial 1, 3) := by decide +kernel
theorem dX9_init_4 : decode cX9_init 4 = .ok (.aload_n 0, 1) := by decide +kernel
theorem dX9_init_5 : decode cX9_init 5 = .ok (.new 7, 3) := by decide +kernel
theorem dX9_init_8 : decode cX9_init 8 = .ok (.dup, 1) := by decide +kernel
theorem dX9_init_9 : decode cX9_init 9 = .ok (.invokespecial 9, 3) := by decide +kernel
theorem dX9_init_12 : decode cX9_init 12 = .ok (.putfield 10, 3) := by decide +kernel
theorem dX9_init_15 : decode cX9_init 15 = .ok (.aload_n 0, 1) := by decide +kernel
theorem dX9_init_16 : decode cX9_init 16 = .ok (.new 7, 3) := by decide +kernel
theorem dX9_init_19 : decode cX9_init 19 = .ok (.dup, 1) := by decide +kernel
theorem dX9_init_20 : decode cX9_init 20 = .ok (.invokespecial 9, 3) := by decide +kernel
theorem dX9_init_23 : decode cX9_init 23 = .ok (.putfield 16, 3) := by decide +kernel
theorem dX9_init_26 : decode cX9_init 26 = .ok (.aload_n 0, 1) := by decide +kernel
theorem dX9_init_27 : decode cX9_init 27 = .ok (.bipush 10, 2) := by decide +kernel
theorem dX9_init_29 : decode cX9_init 29 = .ok (.newarray .int, 2) := by decide +kernel
theorem dX9_init_31 : decode cX9_init 31 = .ok (.putfield 19, 3) := by decide +kernel
theorem dX9_init_34 : decode cX9_init 34 = .ok (.aload_n 0, 1) := by decide +kernel
theorem dX9_init_35 : decode cX9_init 35 = .ok (.bipush 10, 2) := by decide +kernel
theorem dX9_init_37 : decode cX9_init 37 = .ok (.newarray .int, 2) := by decide +kernel
theorem dX9_init_39 : decode cX9_init 39 = .ok (.putfield 23, 3) := by decide +kernel
theorem dX9_init_42 : decode cX9_init 42 = .ok (.aload_n 0, 1) := by decide +kernel
theorem dX9_init_43 : decode cX9_init 43 = .ok (.iconst 3, 1) := by decide +kernel
theorem dX9_init_44 : decode cX9_init 44 = .ok (.putfield 26, 3) := by decide +kernel
theorem dX9_init_47 : decode cX9_init 47 = .ok (.return_, 1) := by decide +kernel
theorem dX9_thrown_0 : decode cX9_thrown 0 = .ok (.aload_n 0, 1) := by decide +kernel
theorem dX9_thrown_1 : decode cX9_thrown 1 = .ok (.getfield 30, 3) := by decide +kernel
theorem dX9_thrown_4 : decode cX9_thrown 4 = .ok (.ireturn, 1) := by decide +kernel
theorem dX9_no_0 : decode cX9_no 0 = .ok (.aload_n 0, 1) := by decide +kernel
theorem dX9_no_1 : decode cX9_no 1 = .ok (.iload_n 1, 1) := by decide +kernel
theorem dX9_no_2 : decode cX9_no 2 = .ok (.putfield 30, 3) := by decide +kernel
theorem dX9_no_5 : decode cX9_no 5 = .ok (.iconst 0, 1) := by decide +kernel
theorem dX9_no_6 : decode cX9_no 6 = .ok (.ireturn, 1) := by decide +kernel
theorem dX9_in_0 : decode cX9_in 0 = .ok (.iload_n 0, 1) := by decide +kernel
theorem dX9_in_1 : decode cX9_in 1 = .ok (.iload_n 1, 1) := by decide +kernel
theorem dX9_in_2 : decode cX9_in 2 = .ok (.if_icmp .lt 12, 3) := by decide +kernel
theorem dX9_in_5 : decode cX9_in 5 = .ok (.iload_n 0, 1) := by decide +kernel
theorem dX9_in_6 : decode cX9_in 6 = .ok (.iload_n 2, 1) := by decide +kernel
theorem dX9_in_7 : decode cX9_in 7 = .ok (.if_icmp .gt 7, 3) := by decide +kernel
theorem dX9_in_10 : decode cX9_in 10 = .ok (.iconst 1, 1) := by decide +kernel
theorem dX9_in_11 : decode cX9_in 11 = .ok (.goto 4, 3) := by decide +kernel
theorem dX9_in_14 : decode cX9_in 14 = .ok (.iconst 0, 1) := by decide +kernel
theorem dX9_in_15 : decode cX9_in 15 = .ok (.ireturn, 1) := by decide +kernel
theorem dX9_isJumper_0 : decode cX9_isJumper 0 = .ok (.iload_n 1, 1) := by decide +kernel
theorem dX9_isJumper_1 : decode cX9_isJumper 1 = .ok (.iconst 0, 1) := by decide +kernel
theorem dX9_isJumper_2 : decode cX9_isJumper 2 = .ok (.aload_n 0, 1) := by decide +kernel
theorem dX9_isJumper_3 : decode cX9_isJumper 3 = .ok (.getfield 10, 3) := by decide +kernel
theorem dX9_isJumper_6 : decode cX9_isJumper 6 = .ok (.invokeinterface 33 1, 5) := by decide +kernel
theorem dX9_isJumper_11 : decode cX9_isJumper 11 = .ok (.iconst 1, 1) := by decide +kernel
theorem dX9_isJumper_12 : decode cX9_isJumper 12 = .ok (.isub, 1) := by decide +kernel
theorem dX9_isJumper_13 : decode cX9_isJumper 13 = .ok (.invokestatic 39, 3) := by decide +kernel
theorem dX9_isJumper_16 : decode cX9_isJumper 16 = .ok (.ireturn, 1) := by decide +kernel
theorem dX9_isRig_0 : decode cX9_isRig 0 = .ok (.iload_n 1, 1) := by decide +kernel
theorem dX9_isRig_1 : decode cX9_isRig 1 = .ok (.iconst 0, 1) := by decide +kernel
theorem dX9_isRig_2 : decode cX9_isRig 2 = .ok (.aload_n 0, 1) := by decide +kernel
theorem dX9_isRig_3 : decode cX9_isRig 3 = .ok (.getfield 16, 3) := by decide +kernel
theorem dX9_isRig_6 : decode cX9_isRig 6 = .ok (.invokeinterface 33 1, 5) := by decide +kernel
theorem dX9_isRig_11 : decode cX9_isRig 11 = .ok (.iconst 1, 1) := by decide +kernel
theorem dX9_isRig_12 : decode cX9_isRig 12 = .ok (.isub, 1) := by decide +kernel
theorem dX9_isRig_13 : decode cX9_isRig 13 = .ok (.invokestatic 39, 3) := by decide +kernel
theorem dX9_isRig_16 : decode cX9_isRig 16 = .ok (.ireturn, 1) := by decide +kernel
theorem dX9_loading_0 : decode cX9_loading 0 = .ok (.aload_n 0, 1) := by decide +kernel
theorem dX9_loading_1 : decode cX9_loading 1 = .ok (.getfield 43, 3) := by decide +kernel
theorem dX9_loading_4 : decode cX9_loading 4 = .ok (.i2f, 1) := by decide +kernel
theorem dX9_loading_5 : decode cX9_loading 5 = .ok (.ldc 48, 2) := by decide +kernel
theorem dX9_loading_7 : decode cX9_loading 7 = .ok (.fmul, 1) := by decide +kernel
theorem dX9_loading_8 : decode cX9_loading 8 = .ok (.aload_n 1, 1) := by decide +kernel
theorem dX9_loading_9 : decode cX9_loading 9 = .ok (.getfield 49, 3) := by decide +kernel
theorem dX9_loading_12 : decode cX9_loading 12 = .ok (.i2f, 1) := by decide +kernel
theorem dX9_loading_13 : decode cX9_loading 13 = .ok (.fdiv, 1) := by decide +kernel
theorem dX9_loading_14 : decode cX9_loading 14 = .ok (.freturn, 1) := by decide +kernel
theorem dX9_loading__0 : decode cX9_loading_ 0 = .ok (.aload_n 1, 1) := by decide +kernel
theorem dX9_loading__1 : decode cX9_loading_ 1 = .ok (.getfield 54, 3) := by decide +kernel
theorem dX9_loading__4 : decode cX9_loading_ 4 = .ok (.iconst (-1), 1) := by decide +kernel
theorem dX9_loading__5 : decode cX9_loading_ 5 = .ok (.if_icmp .ne 7, 3) := by decide +kernel
theorem dX9_loading__8 : decode cX9_loading_ 8 = .ok (.fconst 0, 1) := by decide +kernel
theorem dX9_loading__9 : decode cX9_loading_ 9 = .ok (.goto 23, 3) := by decide +kernel
theorem dX9_loading__12 : decode cX9_loading_ 12 = .ok (.aload_n 1, 1) := by decide +kernel
theorem dX9_loading__13 : decode cX9_loading_ 13 = .ok (.aload_n 0, 1) := by decide +kernel
theorem dX9_loading__14 : decode cX9_loading_ 14 = .ok (.getfield 16, 3) := by decide +kernel
theorem dX9_loading__17 : decode cX9_loading_ 17 = .ok (.aload_n 1, 1) := by decide +kernel
theorem dX9_loading__18 : decode cX9_loading_ 18 = .ok (.getfield 54, 3) := by decide +kernel
theorem dX9_loading__21 : decode cX9_loading_ 21 = .ok (.invokeinterface 57 2, 5) := by decide +kernel
theorem dX9_loading__26 : decode cX9_loading_ 26 = .ok (.checkcast 50, 3) := by decide +kernel
theorem dX9_loading__29 : decode cX9_loading_ 29 = .ok (.invokestatic 61, 3) := by decide +kernel
theorem dX9_loading__32 : decode cX9_loading_ 32 = .ok (.freturn, 1) := by decide +kernel
theorem dX9_holder_0 : decode cX9_holder 0 = .ok (.iconst 0, 1) := by decide +kernel
theorem dX9_holder_1 : decode cX9_holder 1 = .ok (.istore_n 2, 1) := by decide +kernel
theorem dX9_holder_2 : decode cX9_holder 2 = .ok (.iload_n 2, 1) := by decide +kernel
theorem dX9_holder_3 : decode cX9_holder 3 = .ok (.aload_n 0, 1) := by decide +kernel
theorem dX9_holder_4 : decode cX9_holder 4 = .ok (.getfield 10, 3) := by decide +kernel
theorem dX9_holder_7 : decode cX9_holder 7 = .ok (.invokeinterface 33 1, 5) := by decide +kernel
theorem dX9_holder_12 : decode cX9_holder 12 = .ok (.if_icmp .ge 31, 3) := by decide +kernel
theorem dX9_holder_15 : decode cX9_holder 15 = .ok (.aload_n 0, 1) := by decide +kernel
theorem dX9_holder_16 : decode cX9_holder 16 = .ok (.getfield 10, 3) := by decide +kernel
theorem dX9_holder_19 : decode cX9_holder 19 = .ok (.iload_n 2, 1) := by decide +kernel
theorem dX9_holder_20 : decode cX9_holder 20 = .ok (.invokeinterface 57 2, 5) := by decide +kernel
theorem dX9_holder_25 : decode cX9_holder 25 = .ok (.checkcast 44, 3) := by decide +kernel
theorem dX9_holder_28 : decode cX9_holder 28 = .ok (.getfield 54, 3) := by decide +kernel
theorem dX9_holder_31 : decode cX9_holder 31 = .ok (.iload_n 1, 1) := by decide +kernel
theorem dX9_holder_32 : decode cX9_holder 32 = .ok (.if_icmp .ne 5, 3) := by decide +kernel
theorem dX9_holder_35 : decode cX9_holder 35 = .ok (.iload_n 2, 1) := by decide +kernel
theorem dX9_holder_36 : decode cX9_holder 36 = .ok (.ireturn, 1) := by decide +kernel
theorem dX9_holder_37 : decode cX9_holder 37 = .ok (.iinc 2 1, 3) := by decide +kernel
theorem dX9_holder_40 : decode cX9_holder 40 = .ok (.goto (-38), 3) := by decide +kernel
theorem dX9_holder_43 : decode cX9_holder 43 = .ok (.iconst (-1), 1) := by decide +kernel
theorem dX9_holder_44 : decode cX9_holder 44 = .ok (.ireturn, 1) := by decide +kernel
theorem dX9_aboard_0 : decode cX9_aboard 0 = .ok (.iconst 0, 1) := by decide +kernel
theorem dX9_aboard_1 : decode cX9_aboard 1 = .ok (.istore_n 1, 1) := by decide +kernel
theorem dX9_aboard_2 : decode cX9_aboard 2 = .ok (.iconst 0, 1) := by decide +kernel
theorem dX9_aboard_3 : decode cX9_aboard 3 = .ok (.istore_n 2, 1) := by decide +kernel
theorem dX9_aboard_4 : decode cX9_aboard 4 = .ok (.iload_n 2, 1) := by decide +kernel
theorem dX9_aboard_5 : decode cX9_aboard 5 = .ok (.aload_n 0, 1) := by decide +kernel
theorem dX9_aboard_6 : decode cX9_aboard 6 = .ok (.getfield 10, 3) := by decide +kernel
theorem dX9_aboard_9 : decode cX9_aboard 9 = .ok (.invokeinterface 33 1, 5) := by decide +kernel
theorem dX9_aboard_14 : decode cX9_aboard 14 = .ok (.if_icmp .ge 37, 3) := by decide +kernel
theorem dX9_aboard_17 : decode cX9_aboard 17 = .ok (.iload_n 1, 1) := by decide +kernel
theorem dX9_aboard_18 : decode cX9_aboard 18 = .ok (.aload_n 0, 1) := by decide +kernel
theorem dX9_aboard_19 : decode cX9_aboard 19 = .ok (.getfield 10, 3) := by decide +kernel
theorem dX9_aboard_22 : decode cX9_aboard 22 = .ok (.iload_n 2, 1) := by decide +kernel
theorem dX9_aboard_23 : decode cX9_aboard 23 = .ok (.invokeinterface 57 2, 5) := by decide +kernel
theorem dX9_aboard_28 : decode cX9_aboard 28 = .ok (.checkcast 44, 3) := by decide +kernel
theorem dX9_aboard_31 : decode cX9_aboard 31 = .ok (.getfield 65, 3) := by decide +kernel
theorem dX9_aboard_34 : decode cX9_aboard 34 = .ok (.iconst (-1), 1) := by decide +kernel
theorem dX9_aboard_35 : decode cX9_aboard 35 = .ok (.if_icmp .ne 7, 3) := by decide +kernel
theorem dX9_aboard_38 : decode cX9_aboard 38 = .ok (.iconst 0, 1) := by decide +kernel
theorem dX9_aboard_39 : decode cX9_aboard 39 = .ok (.goto 4, 3) := by decide +kernel
theorem dX9_aboard_42 : decode cX9_aboard 42 = .ok (.iconst 1, 1) := by decide +kernel
theorem dX9_aboard_43 : decode cX9_aboard 43 = .ok (.iadd, 1) := by decide +kernel
theorem dX9_aboard_44 : decode cX9_aboard 44 = .ok (.istore_n 1, 1) := by decide +kernel
theorem dX9_aboard_45 : decode cX9_aboard 45 = .ok (.iinc 2 1, 3) := by decide +kernel
theorem dX9_aboard_48 : decode cX9_aboard 48 = .ok (.goto (-44), 3) := by decide +kernel
theorem dX9_aboard_51 : decode cX9_aboard 51 = .ok (.iload_n 1, 1) := by decide +kernel
theorem dX9_aboard_52 : decode cX9_aboard 52 = .ok (.ireturn, 1) := by decide +kernel
theorem dX9_ground_0 : decode cX9_ground 0 = .ok (.aload_n 0, 1) := by decide +kernel
theorem dX9_ground_1 : decode cX9_ground 1 = .ok (.getfield 19, 3) := by decide +kernel
theorem dX9_ground_4 : decode cX9_ground 4 = .ok (.iconst 0, 1) := by decide +kernel
theorem dX9_ground_5 : decode cX9_ground 5 = .ok (.iaload, 1) := by decide +kernel
theorem dX9_ground_6 : decode cX9_ground 6 = .ok (.invokestatic 68, 3) := by decide +kernel
theorem dX9_ground_9 : decode cX9_ground 9 = .ok (.aload_n 0, 1) := by decide +kernel
theorem dX9_ground_10 : decode cX9_ground 10 = .ok (.getfield 23, 3) := by decide +kernel
theorem dX9_ground_13 : decode cX9_ground 13 = .ok (.iconst 0, 1) := by decide +kernel
theorem dX9_ground_14 : decode cX9_ground 14 = .ok (.iaload, 1) := by decide +kernel
theorem dX9_ground_15 : decode cX9_ground 15 = .ok (.invokestatic 68, 3) := by decide +kernel
theorem dX9_ground_18 : decode cX9_ground 18 = .ok (.iadd, 1) := by decide +kernel
theorem dX9_ground_19 : decode cX9_ground 19 = .ok (.ireturn, 1) := by decide +kernel
theorem dX9_isAhead_0 : decode cX9_isAhead 0 = .ok (.aload_n 0, 1) := by decide +kernel
theorem dX9_isAhead_1 : decode cX9_isAhead 1 = .ok (.getfield 10, 3) := by decide +kernel
theorem dX9_isAhead_4 : decode cX9_isAhead 4 = .ok (.iload_n 1, 1) := by decide +kernel
theorem dX9_isAhead_5 : decode cX9_isAhead 5 = .ok (.invokeinterface 57 2, 5) := by decide +kernel
theorem dX9_isAhead_10 : decode cX9_isAhead 10 = .ok (.checkcast 44, 3) := by decide +kernel
theorem dX9_isAhead_13 : decode cX9_isAhead 13 = .ok (.astore_n 3, 1) := by decide +kernel
theorem dX9_isAhead_14 : decode cX9_isAhead 14 = .ok (.aload_n 0, 1) := by decide +kernel
theorem dX9_isAhead_15 : decode cX9_isAhead 15 = .ok (.getfield 10, 3) := by decide +kernel
theorem dX9_isAhead_18 : decode cX9_isAhead 18 = .ok (.iload_n 2, 1) := by decide +kernel
theorem dX9_isAhead_19 : decode cX9_isAhead 19 = .ok (.invokeinterface 57 2, 5) := by decide +kernel
theorem dX9_isAhead_24 : decode cX9_isAhead 24 = .ok (.checkcast 44, 3) := by decide +kernel
theorem dX9_isAhead_27 : decode cX9_isAhead 27 = .ok (.astore 4, 2) := by decide +kernel
theorem dX9_isAhead_29 : decode cX9_isAhead 29 = .ok (.aload_n 3, 1) := by decide +kernel
theorem dX9_isAhead_30 : decode cX9_isAhead 30 = .ok (.getfield 74, 3) := by decide +kernel
theorem dX9_isAhead_33 : decode cX9_isAhead 33 = .ok (.ifCond .le 7, 3) := by decide +kernel
theorem dX9_isAhead_36 : decode cX9_isAhead 36 = .ok (.iconst 1, 1) := by decide +kernel
theorem dX9_isAhead_37 : decode cX9_isAhead 37 = .ok (.goto 4, 3) := by decide +kernel
theorem dX9_isAhead_40 : decode cX9_isAhead 40 = .ok (.iconst 0, 1) := by decide +kernel
theorem dX9_isAhead_41 : decode cX9_isAhead 41 = .ok (.aload 4, 2) := by decide +kernel
theorem dX9_isAhead_43 : decode cX9_isAhead 43 = .ok (.getfield 74, 3) := by decide +kernel
theorem dX9_isAhead_46 : decode cX9_isAhead 46 = .ok (.ifCond .le 7, 3) := by decide +kernel
theorem dX9_isAhead_49 : decode cX9_isAhead 49 = .ok (.iconst 1, 1) := by decide +kernel
theorem dX9_isAhead_50 : decode cX9_isAhead 50 = .ok (.goto 4, 3) := by decide +kernel
theorem dX9_isAhead_53 : decode cX9_isAhead 53 = .ok (.iconst 0, 1) := by decide +kernel
theorem dX9_isAhead_54 : decode cX9_isAhead 54 = .ok (.if_icmp .eq 16, 3) := by decide +kernel
theorem dX9_isAhead_57 : decode cX9_isAhead 57 = .ok (.aload_n 3, 1) := by decide +kernel
theorem dX9_isAhead_58 : decode cX9_isAhead 58 = .ok (.getfield 74, 3) := by decide +kernel
theorem dX9_isAhead_61 : decode cX9_isAhead 61 = .ok (.ifCond .le 7, 3) := by decide +kernel
theorem dX9_isAhead_64 : decode cX9_isAhead 64 = .ok (.iconst 1, 1) := by decide +kernel
theorem dX9_isAhead_65 : decode cX9_isAhead 65 = .ok (.goto 4, 3) := by decide +kernel
theorem dX9_isAhead_68 : decode cX9_isAhead 68 = .ok (.iconst 0, 1) := by decide +kernel
theorem dX9_isAhead_69 : decode cX9_isAhead 69 = .ok (.ireturn, 1) := by decide +kernel
theorem dX9_isAhead_70 : decode cX9_isAhead 70 = .ok (.aload_n 3, 1) := by decide +kernel
theorem dX9_isAhead_71 : decode cX9_isAhead 71 = .ok (.getfield 65, 3) := by decide +kernel
theorem dX9_isAhead_74 : decode cX9_isAhead 74 = .ok (.aload 4, 2) := by decide +kernel
theorem dX9_isAhead_76 : decode cX9_isAhead 76 = .ok (.getfield 65, 3) := by decide +kernel
theorem dX9_isAhead_79 : decode cX9_isAhead 79 = .ok (.if_icmp .eq 21, 3) := by decide +kernel
theorem dX9_isAhead_82 : decode cX9_isAhead 82 = .ok (.aload_n 3, 1) := by decide +kernel
theorem dX9_isAhead_83 : decode cX9_isAhead 83 = .ok (.getfield 65, 3) := by decide +kernel
theorem dX9_isAhead_86 : decode cX9_isAhead 86 = .ok (.aload 4, 2) := by decide +kernel
theorem dX9_isAhead_88 : decode cX9_isAhead 88 = .ok (.getfield 65, 3) := by decide +kernel
theorem dX9_isAhead_91 : decode cX9_isAhead 91 = .ok (.if_icmp .ge 7, 3) := by decide +kernel
theorem dX9_isAhead_94 : decode cX9_isAhead 94 = .ok (.iconst 1, 1) := by decide +kernel
theorem dX9_isAhead_95 : decode cX9_isAhead 95 = .ok (.goto 4, 3) := by decide +kernel
theorem dX9_isAhead_98 : decode cX9_isAhead 98 = .ok (.iconst 0, 1) := by decide +kernel
theorem dX9_isAhead_99 : decode cX9_isAhead 99 = .ok (.ireturn, 1) := by decide +kernel
theorem dX9_isAhead_100 : decode cX9_isAhead 100 = .ok (.aload_n 0, 1) := by decide +kernel
theorem dX9_isAhead_101 : decode cX9_isAhead 101 = .ok (.aload_n 3, 1) := by decide +kernel
theorem dX9_isAhead_102 : decode cX9_isAhead 102 = .ok (.invokevirtual 77, 3) := by decide +kernel
theorem dX9_isAhead_105 : decode cX9_isAhead 105 = .ok (.aload_n 0, 1) := by decide +kernel
theorem dX9_isAhead_106 : decode cX9_isAhead 106 = .ok (.aload 4, 2) := by decide +kernel
theorem dX9_isAhead_108 : decode cX9_isAhead 108 = .ok (.invokevirtual 77, 3) := by decide +kernel
theorem dX9_isAhead_111 : decode cX9_isAhead 111 = .ok (.fcmp .l, 1) := by decide +kernel
theorem dX9_isAhead_112 : decode cX9_isAhead 112 = .ok (.ifCond .gt 23, 3) := by decide +kernel
theorem dX9_isAhead_115 : decode cX9_isAhead 115 = .ok (.aload_n 0, 1) := by decide +kernel
theorem dX9_isAhead_116 : decode cX9_isAhead 116 = .ok (.aload_n 3, 1) := by decide +kernel
theorem dX9_isAhead_117 : decode cX9_isAhead 117 = .ok (.invokevirtual 77, 3) := by decide +kernel
theorem dX9_isAhead_120 : decode cX9_isAhead 120 = .ok (.aload_n 0, 1) := by decide +kernel
theorem dX9_isAhead_121 : decode cX9_isAhead 121 = .ok (.aload 4, 2) := by decide +kernel
theorem dX9_isAhead_123 : decode cX9_isAhead 123 = .ok (.invokevirtual 77, 3) := by decide +kernel
theorem dX9_isAhead_126 : decode cX9_isAhead 126 = .ok (.fcmp .l, 1) := by decide +kernel
theorem dX9_isAhead_127 : decode cX9_isAhead 127 = .ok (.ifCond .ne 12, 3) := by decide +kernel
theorem dX9_isAhead_130 : decode cX9_isAhead 130 = .ok (.iload_n 1, 1) := by decide +kernel
theorem dX9_isAhead_131 : decode cX9_isAhead 131 = .ok (.iload_n 2, 1) := by decide +kernel
theorem dX9_isAhead_132 : decode cX9_isAhead 132 = .ok (.if_icmp .ge 7, 3) := by decide +kernel
theorem dX9_isAhead_135 : decode cX9_isAhead 135 = .ok (.iconst 1, 1) := by decide +kernel
theorem dX9_isAhead_136 : decode cX9_isAhead 136 = .ok (.goto 4, 3) := by decide +kernel
theorem dX9_isAhead_139 : decode cX9_isAhead 139 = .ok (.iconst 0, 1) := by decide +kernel
theorem dX9_isAhead_140 : decode cX9_isAhead 140 = .ok (.ireturn, 1) := by decide +kernel
theorem dX9_placeOf_0 : decode cX9_placeOf 0 = .ok (.iconst 0, 1) := by decide +kernel
theorem dX9_placeOf_1 : decode cX9_placeOf 1 = .ok (.istore_n 2, 1) := by decide +kernel
theorem dX9_placeOf_2 : decode cX9_placeOf 2 = .ok (.iconst 0, 1) := by decide +kernel
theorem dX9_placeOf_3 : decode cX9_placeOf 3 = .ok (.istore_n 3, 1) := by decide +kernel
theorem dX9_placeOf_4 : decode cX9_placeOf 4 = .ok (.iload_n 3, 1) := by decide +kernel
theorem dX9_placeOf_5 : decode cX9_placeOf 5 = .ok (.aload_n 0, 1) := by decide +kernel
theorem dX9_placeOf_6 : decode cX9_placeOf 6 = .ok (.getfield 10, 3) := by decide +kernel
theorem dX9_placeOf_9 : decode cX9_placeOf 9 = .ok (.invokeinterface 33 1, 5) := by decide +kernel
theorem dX9_placeOf_14 : decode cX9_placeOf 14 = .ok (.if_icmp .ge 51, 3) := by decide +kernel
theorem dX9_placeOf_17 : decode cX9_placeOf 17 = .ok (.iload_n 2, 1) := by decide +kernel
theorem dX9_placeOf_18 : decode cX9_placeOf 18 = .ok (.iload_n 3, 1) := by decide +kernel
theorem dX9_placeOf_19 : decode cX9_placeOf 19 = .ok (.iload_n 1, 1) := by decide +kernel
theorem dX9_placeOf_20 : decode cX9_placeOf 20 = .ok (.if_icmp .eq 36, 3) := by decide +kernel
theorem dX9_placeOf_23 : decode cX9_placeOf 23 = .ok (.aload_n 0, 1) := by decide +kernel
theorem dX9_placeOf_24 : decode cX9_placeOf 24 = .ok (.getfield 10, 3) := by decide +kernel
theorem dX9_placeOf_27 : decode cX9_placeOf 27 = .ok (.iload_n 3, 1) := by decide +kernel
theorem dX9_placeOf_28 : decode cX9_placeOf 28 = .ok (.invokeinterface 57 2, 5) := by decide +kernel
theorem dX9_placeOf_33 : decode cX9_placeOf 33 = .ok (.checkcast 44, 3) := by decide +kernel
theorem dX9_placeOf_36 : decode cX9_placeOf 36 = .ok (.getfield 65, 3) := by decide +kernel
theorem dX9_placeOf_39 : decode cX9_placeOf 39 = .ok (.iconst (-1), 1) := by decide +kernel
theorem dX9_placeOf_40 : decode cX9_placeOf 40 = .ok (.if_icmp .eq 16, 3) := by decide +kernel
theorem dX9_placeOf_43 : decode cX9_placeOf 43 = .ok (.aload_n 0, 1) := by decide +kernel
theorem dX9_placeOf_44 : decode cX9_placeOf 44 = .ok (.iload_n 3, 1) := by decide +kernel
theorem dX9_placeOf_45 : decode cX9_placeOf 45 = .ok (.iload_n 1, 1) := by decide +kernel
theorem dX9_placeOf_46 : decode cX9_placeOf 46 = .ok (.invokevirtual 80, 3) := by decide +kernel
theorem dX9_placeOf_49 : decode cX9_placeOf 49 = .ok (.ifCond .eq 7, 3) := by decide +kernel
theorem dX9_placeOf_52 : decode cX9_placeOf 52 = .ok (.iconst 1, 1) := by decide +kernel
theorem dX9_placeOf_53 : decode cX9_placeOf 53 = .ok (.goto 4, 3) := by decide +kernel
theorem dX9_placeOf_56 : decode cX9_placeOf 56 = .ok (.iconst 0, 1) := by decide +kernel
theorem dX9_placeOf_57 : decode cX9_placeOf 57 = .ok (.iadd, 1) := by decide +kernel
theorem dX9_placeOf_58 : decode cX9_placeOf 58 = .ok (.istore_n 2, 1) := by decide +kernel
theorem dX9_placeOf_59 : decode cX9_placeOf 59 = .ok (.iinc 3 1, 3) := by decide +kernel
theorem dX9_placeOf_62 : decode cX9_placeOf 62 = .ok (.goto (-58), 3) := by decide +kernel
theorem dX9_placeOf_65 : decode cX9_placeOf 65 = .ok (.aload_n 0, 1) := by decide +kernel
theorem dX9_placeOf_66 : decode cX9_placeOf 66 = .ok (.getfield 10, 3) := by decide +kernel
theorem dX9_placeOf_69 : decode cX9_placeOf 69 = .ok (.iload_n 1, 1) := by decide +kernel
theorem dX9_placeOf_70 : decode cX9_placeOf 70 = .ok (.invokeinterface 57 2, 5) := by decide +kernel
theorem dX9_placeOf_75 : decode cX9_placeOf 75 = .ok (.checkcast 44, 3) := by decide +kernel
theorem dX9_placeOf_78 : decode cX9_placeOf 78 = .ok (.getfield 65, 3) := by decide +kernel
theorem dX9_placeOf_81 : decode cX9_placeOf 81 = .ok (.iconst (-1), 1) := by decide +kernel
theorem dX9_placeOf_82 : decode cX9_placeOf 82 = .ok (.if_icmp .ne 7, 3) := by decide +kernel
theorem dX9_placeOf_85 : decode cX9_placeOf 85 = .ok (.iconst (-1), 1) := by decide +kernel
theorem dX9_placeOf_86 : decode cX9_placeOf 86 = .ok (.goto 4, 3) := by decide +kernel
theorem dX9_placeOf_89 : decode cX9_placeOf 89 = .ok (.iload_n 2, 1) := by decide +kernel
theorem dX9_placeOf_90 : decode cX9_placeOf 90 = .ok (.ireturn, 1) := by decide +kernel
theorem dX9_at_0 : decode cX9_at 0 = .ok (.iconst 0, 1) := by decide +kernel
theorem dX9_at_1 : decode cX9_at 1 = .ok (.istore_n 2, 1) := by decide +kernel
theorem dX9_at_2 : decode cX9_at 2 = .ok (.iload_n 2, 1) := by decide +kernel
theorem dX9_at_3 : decode cX9_at 3 = .ok (.aload_n 0, 1) := by decide +kernel
theorem dX9_at_4 : decode cX9_at 4 = .ok (.getfield 10, 3) := by decide +kernel
theorem dX9_at_7 : decode cX9_at 7 = .ok (.invokeinterface 33 1, 5) := by decide +kernel
theorem dX9_at_12 : decode cX9_at 12 = .ok (.if_icmp .ge 20, 3) := by decide +kernel
theorem dX9_at_15 : decode cX9_at 15 = .ok (.aload_n 0, 1) := by decide +kernel
theorem dX9_at_16 : decode cX9_at 16 = .ok (.iload_n 2, 1) := by decide +kernel
theorem dX9_at_17 : decode cX9_at 17 = .ok (.invokevirtual 84, 3) := by decide +kernel
theorem dX9_at_20 : decode cX9_at 20 = .ok (.iload_n 1, 1) := by decide +kernel
theorem dX9_at_21 : decode cX9_at 21 = .ok (.if_icmp .ne 5, 3) := by decide +kernel
theorem dX9_at_24 : decode cX9_at 24 = .ok (.iload_n 2, 1) := by decide +kernel
theorem dX9_at_25 : decode cX9_at 25 = .ok (.ireturn, 1) := by decide +kernel
theorem dX9_at_26 : decode cX9_at 26 = .ok (.iinc 2 1, 3) := by decide +kernel
theorem dX9_at_29 : decode cX9_at 29 = .ok (.goto (-27), 3) := by decide +kernel
theorem dX9_at_32 : decode cX9_at 32 = .ok (.iconst (-1), 1) := by decide +kernel
theorem dX9_at_33 : decode cX9_at 33 = .ok (.ireturn, 1) := by decide +kernel
theorem dX9_flight_0 : decode cX9_flight 0 = .ok (.new 7, 3) := by decide +kernel
theorem dX9_flight_3 : decode cX9_flight 3 = .ok (.dup, 1) := by decide +kernel
theorem dX9_flight_4 : decode cX9_flight 4 = .ok (.invokespecial 9, 3) := by decide +kernel
theorem dX9_flight_7 : decode cX9_flight 7 = .ok (.astore_n 3, 1) := by decide +kernel
theorem dX9_flight_8 : decode cX9_flight 8 = .ok (.iconst 0, 1) := by decide +kernel
theorem dX9_flight_9 : decode cX9_flight 9 = .ok (.istore 4, 2) := by decide +kernel
theorem dX9_flight_11 : decode cX9_flight 11 = .ok (.iload 4, 2) := by decide +kernel
theorem dX9_flight_13 : decode cX9_flight 13 = .ok (.aload_n 0, 1) := by decide +kernel
theorem dX9_flight_14 : decode cX9_flight 14 = .ok (.invokevirtual 87, 3) := by decide +kernel
theorem dX9_flight_17 : decode cX9_flight 17 = .ok (.if_icmp .ge 81, 3) := by decide +kernel
theorem dX9_flight_20 : decode cX9_flight 20 = .ok (.aload_n 0, 1) := by decide +kernel
theorem dX9_flight_21 : decode cX9_flight 21 = .ok (.getfield 10, 3) := by decide +kernel
theorem dX9_flight_24 : decode cX9_flight 24 = .ok (.aload_n 0, 1) := by decide +kernel
theorem dX9_flight_25 : decode cX9_flight 25 = .ok (.iload 4, 2) := by decide +kernel
theorem dX9_flight_27 : decode cX9_flight 27 = .ok (.invokevirtual 90, 3) := by decide +kernel
theorem dX9_flight_30 : decode cX9_flight 30 = .ok (.invokeinterface 57 2, 5) := by decide +kernel
theorem dX9_flight_35 : decode cX9_flight 35 = .ok (.checkcast 44, 3) := by decide +kernel
theorem dX9_flight_38 : decode cX9_flight 38 = .ok (.astore 5, 2) := by decide +kernel
theorem dX9_flight_40 : decode cX9_flight 40 = .ok (.aload_n 3, 1) := by decide +kernel
theorem dX9_flight_41 : decode cX9_flight 41 = .ok (.new 93, 3) := by decide +kernel
theorem dX9_flight_44 : decode cX9_flight 44 = .ok (.dup, 1) := by decide +kernel
theorem dX9_flight_45 : decode cX9_flight 45 = .ok (.aload_n 0, 1) := by decide +kernel
theorem dX9_flight_46 : decode cX9_flight 46 = .ok (.aload 5, 2) := by decide +kernel
theorem dX9_flight_48 : decode cX9_flight 48 = .ok (.aload 5, 2) := by decide +kernel
theorem dX9_flight_50 : decode cX9_flight 50 = .ok (.getfield 65, 3) := by decide +kernel
theorem dX9_flight_53 : decode cX9_flight 53 = .ok (.aload 5, 2) := by decide +kernel
theorem dX9_flight_55 : decode cX9_flight 55 = .ok (.getfield 95, 3) := by decide +kernel
theorem dX9_flight_58 : decode cX9_flight 58 = .ok (.iload 4, 2) := by decide +kernel
theorem dX9_flight_60 : decode cX9_flight 60 = .ok (.iload_n 2, 1) := by decide +kernel
theorem dX9_flight_61 : decode cX9_flight 61 = .ok (.imul, 1) := by decide +kernel
theorem dX9_flight_62 : decode cX9_flight 62 = .ok (.iload_n 1, 1) := by decide +kernel
theorem dX9_flight_63 : decode cX9_flight 63 = .ok (.i2d, 1) := by decide +kernel
theorem dX9_flight_64 : decode cX9_flight 64 = .ok (.iload 4, 2) := by decide +kernel
theorem dX9_flight_66 : decode cX9_flight 66 = .ok (.iload_n 2, 1) := by decide +kernel
theorem dX9_flight_67 : decode cX9_flight 67 = .ok (.imul, 1) := by decide +kernel
theorem dX9_flight_68 : decode cX9_flight 68 = .ok (.i2d, 1) := by decide +kernel
theorem dX9_flight_69 : decode cX9_flight 69 = .ok (.ldc2_w 98, 3) := by decide +kernel
theorem dX9_flight_72 : decode cX9_flight 72 = .ok (.aload_n 0, 1) := by decide +kernel
theorem dX9_flight_73 : decode cX9_flight 73 = .ok (.getfield 19, 3) := by decide +kernel
theorem dX9_flight_76 : decode cX9_flight 76 = .ok (.bipush 9, 2) := by decide +kernel
theorem dX9_flight_78 : decode cX9_flight 78 = .ok (.iaload, 1) := by decide +kernel
theorem dX9_flight_79 : decode cX9_flight 79 = .ok (.i2d, 1) := by decide +kernel
theorem dX9_flight_80 : decode cX9_flight 80 = .ok (.dsub, 1) := by decide +kernel
theorem dX9_flight_81 : decode cX9_flight 81 = .ok (.dmul, 1) := by decide +kernel
theorem dX9_flight_82 : decode cX9_flight 82 = .ok (.dadd, 1) := by decide +kernel
theorem dX9_flight_83 : decode cX9_flight 83 = .ok (.invokespecial 100, 3) := by decide +kernel
theorem dX9_flight_86 : decode cX9_flight 86 = .ok (.invokeinterface 103 2, 5) := by decide +kernel
theorem dX9_flight_91 : decode cX9_flight 91 = .ok (.pop, 1) := by decide +kernel
theorem dX9_flight_92 : decode cX9_flight 92 = .ok (.iinc 4 1, 3) := by decide +kernel
theorem dX9_flight_95 : decode cX9_flight 95 = .ok (.goto (-84), 3) := by decide +kernel
theorem dX9_flight_98 : decode cX9_flight 98 = .ok (.aload_n 3, 1) := by decide +kernel
theorem dX9_flight_99 : decode cX9_flight 99 = .ok (.areturn, 1) := by decide +kernel
theorem dX9_go_0 : decode cX9_go 0 = .ok (.aload_n 0, 1) := by decide +kernel
theorem dX9_go_1 : decode cX9_go 1 = .ok (.invokeinterface 33 1, 5) := by decide +kernel
theorem dX9_go_6 : decode cX9_go 6 = .ok (.aload_n 0, 1) := by decide +kernel
theorem dX9_go_7 : decode cX9_go 7 = .ok (.invokeinterface 33 1, 5) := by decide +kernel
theorem dX9_go_12 : decode cX9_go 12 = .ok (.multianewarray 107 2, 4) := by decide +kernel
theorem dX9_go_16 : decode cX9_go 16 = .ok (.astore_n 1, 1) := by decide +kernel
theorem dX9_go_17 : decode cX9_go 17 = .ok (.iconst 0, 1) := by decide +kernel
theorem dX9_go_18 : decode cX9_go 18 = .ok (.istore_n 2, 1) := by decide +kernel
theorem dX9_go_19 : decode cX9_go 19 = .ok (.iconst 0, 1) := by decide +kernel
theorem dX9_go_20 : decode cX9_go 20 = .ok (.istore_n 3, 1) := by decide +kernel
theorem dX9_go_21 : decode cX9_go 21 = .ok (.iconst 0, 1) := by decide +kernel
theorem dX9_go_22 : decode cX9_go 22 = .ok (.istore 4, 2) := by decide +kernel
theorem dX9_go_24 : decode cX9_go 24 = .ok (.iload_n 3, 1) := by decide +kernel
theorem dX9_go_25 : decode cX9_go 25 = .ok (.aload_n 0, 1) := by decide +kernel
theorem dX9_go_26 : decode cX9_go 26 = .ok (.invokeinterface 33 1, 5) := by decide +kernel
theorem dX9_go_31 : decode cX9_go 31 = .ok (.if_icmp .ge 171, 3) := by decide +kernel
theorem dX9_go_34 : decode cX9_go 34 = .ok (.iconst 0, 1) := by decide +kernel
theorem dX9_go_35 : decode cX9_go 35 = .ok (.istore_n 3, 1) := by decide +kernel
theorem dX9_go_36 : decode cX9_go 36 = .ok (.iconst 0, 1) := by decide +kernel
theorem dX9_go_37 : decode cX9_go 37 = .ok (.istore 5, 2) := by decide +kernel
theorem dX9_go_39 : decode cX9_go 39 = .ok (.iload 5, 2) := by decide +kernel
theorem dX9_go_41 : decode cX9_go 41 = .ok (.aload_n 0, 1) := by decide +kernel
theorem dX9_go_42 : decode cX9_go 42 = .ok (.invokeinterface 33 1, 5) := by decide +kernel
theorem dX9_go_47 : decode cX9_go 47 = .ok (.if_icmp .ge 61, 3) := by decide +kernel
theorem dX9_go_50 : decode cX9_go 50 = .ok (.aload_n 0, 1) := by decide +kernel
theorem dX9_go_51 : decode cX9_go 51 = .ok (.iload 5, 2) := by decide +kernel
theorem dX9_go_53 : decode cX9_go 53 = .ok (.invokeinterface 57 2, 5) := by decide +kernel
theorem dX9_go_58 : decode cX9_go 58 = .ok (.checkcast 93, 3) := by decide +kernel
theorem dX9_go_61 : decode cX9_go 61 = .ok (.astore 6, 2) := by decide +kernel
theorem dX9_go_63 : decode cX9_go 63 = .ok (.aload 6, 2) := by decide +kernel
theorem dX9_go_65 : decode cX9_go 65 = .ok (.getfield 109, 3) := by decide +kernel
theorem dX9_go_68 : decode cX9_go 68 = .ok (.iload 4, 2) := by decide +kernel
theorem dX9_go_70 : decode cX9_go 70 = .ok (.if_icmp .gt 16, 3) := by decide +kernel
theorem dX9_go_73 : decode cX9_go 73 = .ok (.aload 6, 2) := by decide +kernel
theorem dX9_go_75 : decode cX9_go 75 = .ok (.invokevirtual 112, 3) := by decide +kernel
theorem dX9_go_78 : decode cX9_go 78 = .ok (.ifCond .ne 8, 3) := by decide +kernel
theorem dX9_go_81 : decode cX9_go 81 = .ok (.aload 6, 2) := by decide +kernel
theorem dX9_go_83 : decode cX9_go 83 = .ok (.invokevirtual 116, 3) := by decide +kernel
theorem dX9_go_86 : decode cX9_go 86 = .ok (.iload_n 3, 1) := by decide +kernel
theorem dX9_go_87 : decode cX9_go 87 = .ok (.aload 6, 2) := by decide +kernel
theorem dX9_go_89 : decode cX9_go 89 = .ok (.invokevirtual 112, 3) := by decide +kernel
theorem dX9_go_92 : decode cX9_go 92 = .ok (.ifCond .eq 7, 3) := by decide +kernel
theorem dX9_go_95 : decode cX9_go 95 = .ok (.iconst 1, 1) := by decide +kernel
theorem dX9_go_96 : decode cX9_go 96 = .ok (.goto 4, 3) := by decide +kernel
theorem dX9_go_99 : decode cX9_go 99 = .ok (.iconst 0, 1) := by decide +kernel
theorem dX9_go_100 : decode cX9_go 100 = .ok (.iadd, 1) := by decide +kernel
theorem dX9_go_101 : decode cX9_go 101 = .ok (.istore_n 3, 1) := by decide +kernel
theorem dX9_go_102 : decode cX9_go 102 = .ok (.iinc 5 1, 3) := by decide +kernel
theorem dX9_go_105 : decode cX9_go 105 = .ok (.goto (-66), 3) := by decide +kernel
theorem dX9_go_108 : decode cX9_go 108 = .ok (.iconst 0, 1) := by decide +kernel
theorem dX9_go_109 : decode cX9_go 109 = .ok (.istore 5, 2) := by decide +kernel
theorem dX9_go_111 : decode cX9_go 111 = .ok (.iload 5, 2) := by decide +kernel
theorem dX9_go_113 : decode cX9_go 113 = .ok (.aload_n 0, 1) := by decide +kernel
theorem dX9_go_114 : decode cX9_go 114 = .ok (.invokeinterface 33 1, 5) := by decide +kernel
theorem dX9_go_119 : decode cX9_go 119 = .ok (.if_icmp .ge 77, 3) := by decide +kernel
theorem dX9_go_122 : decode cX9_go 122 = .ok (.iconst 0, 1) := by decide +kernel
theorem dX9_go_123 : decode cX9_go 123 = .ok (.istore 6, 2) := by decide +kernel
theorem dX9_go_125 : decode cX9_go 125 = .ok (.iload 6, 2) := by decide +kernel
theorem dX9_go_127 : decode cX9_go 127 = .ok (.iload 5, 2) := by decide +kernel
theorem dX9_go_129 : decode cX9_go 129 = .ok (.if_icmp .ge 61, 3) := by decide +kernel
theorem dX9_go_132 : decode cX9_go 132 = .ok (.aload_n 1, 1) := by decide +kernel
theorem dX9_go_133 : decode cX9_go 133 = .ok (.iload 5, 2) := by decide +kernel
theorem dX9_go_135 : decode cX9_go 135 = .ok (.aaload, 1) := by decide +kernel
theorem dX9_go_136 : decode cX9_go 136 = .ok (.iload 6, 2) := by decide +kernel
theorem dX9_go_138 : decode cX9_go 138 = .ok (.baload, 1) := by decide +kernel
theorem dX9_go_139 : decode cX9_go 139 = .ok (.ifCond .ne 45, 3) := by decide +kernel
theorem dX9_go_142 : decode cX9_go 142 = .ok (.aload_n 0, 1) := by decide +kernel
theorem dX9_go_143 : decode cX9_go 143 = .ok (.iload 5, 2) := by decide +kernel
theorem dX9_go_145 : decode cX9_go 145 = .ok (.invokeinterface 57 2, 5) := by decide +kernel
theorem dX9_go_150 : decode cX9_go 150 = .ok (.checkcast 93, 3) := by decide +kernel
theorem dX9_go_153 : decode cX9_go 153 = .ok (.aload_n 0, 1) := by decide +kernel
theorem dX9_go_154 : decode cX9_go 154 = .ok (.iload 6, 2) := by decide +kernel
theorem dX9_go_156 : decode cX9_go 156 = .ok (.invokeinterface 57 2, 5) := by decide +kernel
theorem dX9_go_161 : decode cX9_go 161 = .ok (.checkcast 93, 3) := by decide +kernel
theorem dX9_go_164 : decode cX9_go 164 = .ok (.invokevirtual 119, 3) := by decide +kernel
theorem dX9_go_167 : decode cX9_go 167 = .ok (.ifCond .ne 6, 3) := by decide +kernel
theorem dX9_go_170 : decode cX9_go 170 = .ok (.goto 14, 3) := by decide +kernel
theorem dX9_go_173 : decode cX9_go 173 = .ok (.aload_n 1, 1) := by decide +kernel
theorem dX9_go_174 : decode cX9_go 174 = .ok (.iload 5, 2) := by decide +kernel
theorem dX9_go_176 : decode cX9_go 176 = .ok (.aaload, 1) := by decide +kernel
theorem dX9_go_177 : decode cX9_go 177 = .ok (.iload 6, 2) := by decide +kernel
theorem dX9_go_179 : decode cX9_go 179 = .ok (.iconst 1, 1) := by decide +kernel
theorem dX9_go_180 : decode cX9_go 180 = .ok (.bastore, 1) := by decide +kernel
theorem dX9_go_181 : decode cX9_go 181 = .ok (.iinc 2 1, 3) := by decide +kernel
theorem dX9_go_184 : decode cX9_go 184 = .ok (.iinc 6 1, 3) := by decide +kernel
theorem dX9_go_187 : decode cX9_go 187 = .ok (.goto (-62), 3) := by decide +kernel
theorem dX9_go_190 : decode cX9_go 190 = .ok (.iinc 5 1, 3) := by decide +kernel
theorem dX9_go_193 : decode cX9_go 193 = .ok (.goto (-82), 3) := by decide +kernel
theorem dX9_go_196 : decode cX9_go 196 = .ok (.iinc 4 1, 3) := by decide +kernel
theorem dX9_go_199 : decode cX9_go 199 = .ok (.goto (-175), 3) := by decide +kernel
theorem dX9_go_202 : decode cX9_go 202 = .ok (.iload_n 2, 1) := by decide +kernel
theorem dX9_go_203 : decode cX9_go 203 = .ok (.ireturn, 1) := by decide +kernel
theorem dX9_points_0 : decode cX9_points 0 = .ok (.iconst 0, 1) := by decide +kernel
theorem dX9_points_1 : decode cX9_points 1 = .ok (.istore_n 1, 1) := by decide +kernel
theorem dX9_points_2 : decode cX9_points 2 = .ok (.iconst 0, 1) := by decide +kernel
theorem dX9_points_3 : decode cX9_points 3 = .ok (.istore_n 2, 1) := by decide +kernel
theorem dX9_points_4 : decode cX9_points 4 = .ok (.iload_n 2, 1) := by decide +kernel
theorem dX9_points_5 : decode cX9_points 5 = .ok (.aload_n 0, 1) := by decide +kernel
theorem dX9_points_6 : decode cX9_points 6 = .ok (.invokeinterface 33 1, 5) := by decide +kernel
theorem dX9_points_11 : decode cX9_points 11 = .ok (.if_icmp .ge 25, 3) := by decide +kernel
theorem dX9_points_14 : decode cX9_points 14 = .ok (.iload_n 1, 1) := by decide +kernel
theorem dX9_points_15 : decode cX9_points 15 = .ok (.aload_n 0, 1) := by decide +kernel
theorem dX9_points_16 : decode cX9_points 16 = .ok (.iload_n 2, 1) := by decide +kernel
theorem dX9_points_17 : decode cX9_points 17 = .ok (.invokeinterface 57 2, 5) := by decide +kernel
theorem dX9_points_22 : decode cX9_points 22 = .ok (.checkcast 93, 3) := by decide +kernel
theorem dX9_points_25 : decode cX9_points 25 = .ok (.invokevirtual 123, 3) := by decide +kernel
theorem dX9_points_28 : decode cX9_points 28 = .ok (.iadd, 1) := by decide +kernel
theorem dX9_points_29 : decode cX9_points 29 = .ok (.istore_n 1, 1) := by decide +kernel
theorem dX9_points_30 : decode cX9_points 30 = .ok (.iinc 2 1, 3) := by decide +kernel
theorem dX9_points_33 : decode cX9_points 33 = .ok (.goto (-29), 3) := by decide +kernel
theorem dX9_points_36 : decode cX9_points 36 = .ok (.iload_n 1, 1) := by decide +kernel
theorem dX9_points_37 : decode cX9_points 37 = .ok (.ireturn, 1) := by decide +kernel
theorem dX9_jumper_0 : decode cX9_jumper 0 = .ok (.aload_n 0, 1) := by decide +kernel
theorem dX9_jumper_1 : decode cX9_jumper 1 = .ok (.iconst 0, 1) := by decide +kernel
theorem dX9_jumper_2 : decode cX9_jumper 2 = .ok (.putfield 30, 3) := by decide +kernel
theorem dX9_jumper_5 : decode cX9_jumper 5 = .ok (.iload_n 1, 1) := by decide +kernel
theorem dX9_jumper_6 : decode cX9_jumper 6 = .ok (.bipush 50, 2) := by decide +kernel
theorem dX9_jumper_8 : decode cX9_jumper 8 = .ok (.sipush 130, 3) := by decide +kernel
theorem dX9_jumper_11 : decode cX9_jumper 11 = .ok (.invokestatic 39, 3) := by decide +kernel
theorem dX9_jumper_14 : decode cX9_jumper 14 = .ok (.ifCond .eq 12, 3) := by decide +kernel
theorem dX9_jumper_17 : decode cX9_jumper 17 = .ok (.iload_n 2, 1) := by decide +kernel
theorem dX9_jumper_18 : decode cX9_jumper 18 = .ok (.iconst 0, 1) := by decide +kernel
theorem dX9_jumper_19 : decode cX9_jumper 19 = .ok (.iconst 3, 1) := by decide +kernel
theorem dX9_jumper_20 : decode cX9_jumper 20 = .ok (.invokestatic 39, 3) := by decide +kernel
theorem dX9_jumper_23 : decode cX9_jumper 23 = .ok (.ifCond .ne 9, 3) := by decide +kernel
theorem dX9_jumper_26 : decode cX9_jumper 26 = .ok (.aload_n 0, 1) := by decide +kernel
theorem dX9_jumper_27 : decode cX9_jumper 27 = .ok (.iconst 1, 1) := by decide +kernel
theorem dX9_jumper_28 : decode cX9_jumper 28 = .ok (.invokevirtual 126, 3) := by decide +kernel
theorem dX9_jumper_31 : decode cX9_jumper 31 = .ok (.ireturn, 1) := by decide +kernel
theorem dX9_jumper_32 : decode cX9_jumper 32 = .ok (.aload_n 0, 1) := by decide +kernel
theorem dX9_jumper_33 : decode cX9_jumper 33 = .ok (.getfield 10, 3) := by decide +kernel
theorem dX9_jumper_36 : decode cX9_jumper 36 = .ok (.invokeinterface 33 1, 5) := by decide +kernel
theorem dX9_jumper_41 : decode cX9_jumper 41 = .ok (.bipush 8, 2) := by decide +kernel
theorem dX9_jumper_43 : decode cX9_jumper 43 = .ok (.if_icmp .ne 9, 3) := by decide +kernel
theorem dX9_jumper_46 : decode cX9_jumper 46 = .ok (.aload_n 0, 1) := by decide +kernel
theorem dX9_jumper_47 : decode cX9_jumper 47 = .ok (.iconst 2, 1) := by decide +kernel
theorem dX9_jumper_48 : decode cX9_jumper 48 = .ok (.invokevirtual 126, 3) := by decide +kernel
theorem dX9_jumper_51 : decode cX9_jumper 51 = .ok (.ireturn, 1) := by decide +kernel
theorem dX9_jumper_52 : decode cX9_jumper 52 = .ok (.aload_n 0, 1) := by decide +kernel
theorem dX9_jumper_53 : decode cX9_jumper 53 = .ok (.getfield 10, 3) := by decide +kernel
theorem dX9_jumper_56 : decode cX9_jumper 56 = .ok (.new 44, 3) := by decide +kernel
theorem dX9_jumper_59 : decode cX9_jumper 59 = .ok (.dup, 1) := by decide +kernel
theorem dX9_jumper_60 : decode cX9_jumper 60 = .ok (.iload_n 1, 1) := by decide +kernel
theorem dX9_jumper_61 : decode cX9_jumper 61 = .ok (.iload_n 2, 1) := by decide +kernel
theorem dX9_jumper_62 : decode cX9_jumper 62 = .ok (.aload_n 0, 1) := by decide +kernel
theorem dX9_jumper_63 : decode cX9_jumper 63 = .ok (.getfield 129, 3) := by decide +kernel
theorem dX9_jumper_66 : decode cX9_jumper 66 = .ok (.invokespecial 132, 3) := by decide +kernel
theorem dX9_jumper_69 : decode cX9_jumper 69 = .ok (.invokeinterface 103 2, 5) := by decide +kernel
theorem dX9_jumper_74 : decode cX9_jumper 74 = .ok (.pop, 1) := by decide +kernel
theorem dX9_jumper_75 : decode cX9_jumper 75 = .ok (.aload_n 0, 1) := by decide +kernel
theorem dX9_jumper_76 : decode cX9_jumper 76 = .ok (.getfield 10, 3) := by decide +kernel
theorem dX9_jumper_79 : decode cX9_jumper 79 = .ok (.invokeinterface 33 1, 5) := by decide +kernel
theorem dX9_jumper_84 : decode cX9_jumper 84 = .ok (.iconst 1, 1) := by decide +kernel
theorem dX9_jumper_85 : decode cX9_jumper 85 = .ok (.isub, 1) := by decide +kernel
theorem dX9_jumper_86 : decode cX9_jumper 86 = .ok (.ireturn, 1) := by decide +kernel
theorem dX9_rig_0 : decode cX9_rig 0 = .ok (.aload_n 0, 1) := by decide +kernel
theorem dX9_rig_1 : decode cX9_rig 1 = .ok (.iconst 0, 1) := by decide +kernel
theorem dX9_rig_2 : decode cX9_rig 2 = .ok (.putfield 30, 3) := by decide +kernel
theorem dX9_rig_5 : decode cX9_rig 5 = .ok (.iload_n 1, 1) := by decide +kernel
theorem dX9_rig_6 : decode cX9_rig 6 = .ok (.bipush 80, 2) := by decide +kernel
theorem dX9_rig_8 : decode cX9_rig 8 = .ok (.sipush 300, 3) := by decide +kernel
theorem dX9_rig_11 : decode cX9_rig 11 = .ok (.invokestatic 39, 3) := by decide +kernel
theorem dX9_rig_14 : decode cX9_rig 14 = .ok (.ifCond .eq 13, 3) := by decide +kernel
theorem dX9_rig_17 : decode cX9_rig 17 = .ok (.iload_n 2, 1) := by decide +kernel
theorem dX9_rig_18 : decode cX9_rig 18 = .ok (.iconst 0, 1) := by decide +kernel
theorem dX9_rig_19 : decode cX9_rig 19 = .ok (.bipush 60, 2) := by decide +kernel
theorem dX9_rig_21 : decode cX9_rig 21 = .ok (.invokestatic 39, 3) := by decide +kernel
theorem dX9_rig_24 : decode cX9_rig 24 = .ok (.ifCond .ne 9, 3) := by decide +kernel
theorem dX9_rig_27 : decode cX9_rig 27 = .ok (.aload_n 0, 1) := by decide +kernel
theorem dX9_rig_28 : decode cX9_rig 28 = .ok (.iconst 1, 1) := by decide +kernel
theorem dX9_rig_29 : decode cX9_rig 29 = .ok (.invokevirtual 126, 3) := by decide +kernel
theorem dX9_rig_32 : decode cX9_rig 32 = .ok (.ireturn, 1) := by decide +kernel
theorem dX9_rig_33 : decode cX9_rig 33 = .ok (.aload_n 0, 1) := by decide +kernel
theorem dX9_rig_34 : decode cX9_rig 34 = .ok (.getfield 16, 3) := by decide +kernel
theorem dX9_rig_37 : decode cX9_rig 37 = .ok (.invokeinterface 33 1, 5) := by decide +kernel
theorem dX9_rig_42 : decode cX9_rig 42 = .ok (.bipush 8, 2) := by decide +kernel
theorem dX9_rig_44 : decode cX9_rig 44 = .ok (.if_icmp .ne 9, 3) := by decide +kernel
theorem dX9_rig_47 : decode cX9_rig 47 = .ok (.aload_n 0, 1) := by decide +kernel
theorem dX9_rig_48 : decode cX9_rig 48 = .ok (.iconst 2, 1) := by decide +kernel
theorem dX9_rig_49 : decode cX9_rig 49 = .ok (.invokevirtual 126, 3) := by decide +kernel
theorem dX9_rig_52 : decode cX9_rig 52 = .ok (.ireturn, 1) := by decide +kernel
theorem dX9_rig_53 : decode cX9_rig 53 = .ok (.aload_n 0, 1) := by decide +kernel
theorem dX9_rig_54 : decode cX9_rig 54 = .ok (.getfield 16, 3) := by decide +kernel
theorem dX9_rig_57 : decode cX9_rig 57 = .ok (.new 50, 3) := by decide +kernel
theorem dX9_rig_60 : decode cX9_rig 60 = .ok (.dup, 1) := by decide +kernel
theorem dX9_rig_61 : decode cX9_rig 61 = .ok (.iload_n 1, 1) := by decide +kernel
theorem dX9_rig_62 : decode cX9_rig 62 = .ok (.aload_n 0, 1) := by decide +kernel
theorem dX9_rig_63 : decode cX9_rig 63 = .ok (.getfield 129, 3) := by decide +kernel
theorem dX9_rig_66 : decode cX9_rig 66 = .ok (.iload_n 2, 1) := by decide +kernel
theorem dX9_rig_67 : decode cX9_rig 67 = .ok (.iadd, 1) := by decide +kernel
theorem dX9_rig_68 : decode cX9_rig 68 = .ok (.invokespecial 135, 3) := by decide +kernel
theorem dX9_rig_71 : decode cX9_rig 71 = .ok (.invokeinterface 103 2, 5) := by decide +kernel
theorem dX9_rig_76 : decode cX9_rig 76 = .ok (.pop, 1) := by decide +kernel
theorem dX9_rig_77 : decode cX9_rig 77 = .ok (.aload_n 0, 1) := by decide +kernel
theorem dX9_rig_78 : decode cX9_rig 78 = .ok (.getfield 16, 3) := by decide +kernel
theorem dX9_rig_81 : decode cX9_rig 81 = .ok (.invokeinterface 33 1, 5) := by decide +kernel
theorem dX9_rig_86 : decode cX9_rig 86 = .ok (.iconst 1, 1) := by decide +kernel
theorem dX9_rig_87 : decode cX9_rig 87 = .ok (.isub, 1) := by decide +kernel
theorem dX9_rig_88 : decode cX9_rig 88 = .ok (.ireturn, 1) := by decide +kernel
theorem dX9_lend_0 : decode cX9_lend 0 = .ok (.aload_n 0, 1) := by decide +kernel
theorem dX9_lend_1 : decode cX9_lend 1 = .ok (.iconst 0, 1) := by decide +kernel
theorem dX9_lend_2 : decode cX9_lend 2 = .ok (.putfield 30, 3) := by decide +kernel
theorem dX9_lend_5 : decode cX9_lend 5 = .ok (.aload_n 0, 1) := by decide +kernel
theorem dX9_lend_6 : decode cX9_lend 6 = .ok (.iload_n 1, 1) := by decide +kernel
theorem dX9_lend_7 : decode cX9_lend 7 = .ok (.invokevirtual 138, 3) := by decide +kernel
theorem dX9_lend_10 : decode cX9_lend 10 = .ok (.ifCond .eq 11, 3) := by decide +kernel
theorem dX9_lend_13 : decode cX9_lend 13 = .ok (.aload_n 0, 1) := by decide +kernel
theorem dX9_lend_14 : decode cX9_lend 14 = .ok (.iload_n 2, 1) := by decide +kernel
theorem dX9_lend_15 : decode cX9_lend 15 = .ok (.invokevirtual 142, 3) := by decide +kernel
theorem dX9_lend_18 : decode cX9_lend 18 = .ok (.ifCond .ne 9, 3) := by decide +kernel
theorem dX9_lend_21 : decode cX9_lend 21 = .ok (.aload_n 0, 1) := by decide +kernel
theorem dX9_lend_22 : decode cX9_lend 22 = .ok (.iconst 1, 1) := by decide +kernel
theorem dX9_lend_23 : decode cX9_lend 23 = .ok (.invokevirtual 126, 3) := by decide +kernel
theorem dX9_lend_26 : decode cX9_lend 26 = .ok (.ireturn, 1) := by decide +kernel
theorem dX9_lend_27 : decode cX9_lend 27 = .ok (.aload_n 0, 1) := by decide +kernel
theorem dX9_lend_28 : decode cX9_lend 28 = .ok (.iload_n 1, 1) := by decide +kernel
theorem dX9_lend_29 : decode cX9_lend 29 = .ok (.invokevirtual 145, 3) := by decide +kernel
theorem dX9_lend_32 : decode cX9_lend 32 = .ok (.istore_n 3, 1) := by decide +kernel
theorem dX9_lend_33 : decode cX9_lend 33 = .ok (.aload_n 0, 1) := by decide +kernel
theorem dX9_lend_34 : decode cX9_lend 34 = .ok (.getfield 10, 3) := by decide +kernel
theorem dX9_lend_37 : decode cX9_lend 37 = .ok (.iload_n 2, 1) := by decide +kernel
theorem dX9_lend_38 : decode cX9_lend 38 = .ok (.invokeinterface 57 2, 5) := by decide +kernel
theorem dX9_lend_43 : decode cX9_lend 43 = .ok (.checkcast 44, 3) := by decide +kernel
theorem dX9_lend_46 : decode cX9_lend 46 = .ok (.getfield 65, 3) := by decide +kernel
theorem dX9_lend_49 : decode cX9_lend 49 = .ok (.iconst (-1), 1) := by decide +kernel
theorem dX9_lend_50 : decode cX9_lend 50 = .ok (.if_icmp .ne 28, 3) := by decide +kernel
theorem dX9_lend_53 : decode cX9_lend 53 = .ok (.iload_n 3, 1) := by decide +kernel
theorem dX9_lend_54 : decode cX9_lend 54 = .ok (.iconst (-1), 1) := by decide +kernel
theorem dX9_lend_55 : decode cX9_lend 55 = .ok (.if_icmp .eq 29, 3) := by decide +kernel
theorem dX9_lend_58 : decode cX9_lend 58 = .ok (.aload_n 0, 1) := by decide +kernel
theorem dX9_lend_59 : decode cX9_lend 59 = .ok (.getfield 10, 3) := by decide +kernel
theorem dX9_lend_62 : decode cX9_lend 62 = .ok (.iload_n 3, 1) := by decide +kernel
theorem dX9_lend_63 : decode cX9_lend 63 = .ok (.invokeinterface 57 2, 5) := by decide +kernel
theorem dX9_lend_68 : decode cX9_lend 68 = .ok (.checkcast 44, 3) := by decide +kernel
theorem dX9_lend_71 : decode cX9_lend 71 = .ok (.getfield 65, 3) := by decide +kernel
theorem dX9_lend_74 : decode cX9_lend 74 = .ok (.iconst (-1), 1) := by decide +kernel
theorem dX9_lend_75 : decode cX9_lend 75 = .ok (.if_icmp .eq 9, 3) := by decide +kernel
theorem dX9_lend_78 : decode cX9_lend 78 = .ok (.aload_n 0, 1) := by decide +kernel
theorem dX9_lend_79 : decode cX9_lend 79 = .ok (.iconst 2, 1) := by decide +kernel
theorem dX9_lend_80 : decode cX9_lend 80 = .ok (.invokevirtual 126, 3) := by decide +kernel
theorem dX9_lend_83 : decode cX9_lend 83 = .ok (.ireturn, 1) := by decide +kernel
theorem dX9_lend_84 : decode cX9_lend 84 = .ok (.iload_n 3, 1) := by decide +kernel
theorem dX9_lend_85 : decode cX9_lend 85 = .ok (.iconst (-1), 1) := by decide +kernel
theorem dX9_lend_86 : decode cX9_lend 86 = .ok (.if_icmp .eq 20, 3) := by decide +kernel
theorem dX9_lend_89 : decode cX9_lend 89 = .ok (.aload_n 0, 1) := by decide +kernel
theorem dX9_lend_90 : decode cX9_lend 90 = .ok (.getfield 10, 3) := by decide +kernel
theorem dX9_lend_93 : decode cX9_lend 93 = .ok (.iload_n 3, 1) := by decide +kernel
theorem dX9_lend_94 : decode cX9_lend 94 = .ok (.invokeinterface 57 2, 5) := by decide +kernel
theorem dX9_lend_99 : decode cX9_lend 99 = .ok (.checkcast 44, 3) := by decide +kernel
theorem dX9_lend_102 : decode cX9_lend 102 = .ok (.iconst (-1), 1) := by decide +kernel
theorem dX9_lend_103 : decode cX9_lend 103 = .ok (.putfield 54, 3) := by decide +kernel
theorem dX9_lend_106 : decode cX9_lend 106 = .ok (.aload_n 0, 1) := by decide +kernel
theorem dX9_lend_107 : decode cX9_lend 107 = .ok (.getfield 10, 3) := by decide +kernel
theorem dX9_lend_110 : decode cX9_lend 110 = .ok (.iload_n 2, 1) := by decide +kernel
theorem dX9_lend_111 : decode cX9_lend 111 = .ok (.invokeinterface 57 2, 5) := by decide +kernel
theorem dX9_lend_116 : decode cX9_lend 116 = .ok (.checkcast 44, 3) := by decide +kernel
theorem dX9_lend_119 : decode cX9_lend 119 = .ok (.iload_n 1, 1) := by decide +kernel
theorem dX9_lend_120 : decode cX9_lend 120 = .ok (.putfield 54, 3) := by decide +kernel
theorem dX9_lend_123 : decode cX9_lend 123 = .ok (.iload_n 3, 1) := by decide +kernel
theorem dX9_lend_124 : decode cX9_lend 124 = .ok (.ireturn, 1) := by decide +kernel
theorem dX9_pack_0 : decode cX9_pack 0 = .ok (.aload_n 0, 1) := by decide +kernel
theorem dX9_pack_1 : decode cX9_pack 1 = .ok (.iconst 0, 1) := by decide +kernel
theorem dX9_pack_2 : decode cX9_pack 2 = .ok (.putfield 30, 3) := by decide +kernel
theorem dX9_pack_5 : decode cX9_pack 5 = .ok (.aload_n 0, 1) := by decide +kernel
theorem dX9_pack_6 : decode cX9_pack 6 = .ok (.iload_n 1, 1) := by decide +kernel
theorem dX9_pack_7 : decode cX9_pack 7 = .ok (.invokevirtual 138, 3) := by decide +kernel
theorem dX9_pack_10 : decode cX9_pack 10 = .ok (.ifCond .eq 11, 3) := by decide +kernel
theorem dX9_pack_13 : decode cX9_pack 13 = .ok (.aload_n 0, 1) := by decide +kernel
theorem dX9_pack_14 : decode cX9_pack 14 = .ok (.iload_n 2, 1) := by decide +kernel
theorem dX9_pack_15 : decode cX9_pack 15 = .ok (.invokevirtual 142, 3) := by decide +kernel
theorem dX9_pack_18 : decode cX9_pack 18 = .ok (.ifCond .ne 9, 3) := by decide +kernel
theorem dX9_pack_21 : decode cX9_pack 21 = .ok (.aload_n 0, 1) := by decide +kernel
theorem dX9_pack_22 : decode cX9_pack 22 = .ok (.iconst 1, 1) := by decide +kernel
theorem dX9_pack_23 : decode cX9_pack 23 = .ok (.invokevirtual 126, 3) := by decide +kernel
theorem dX9_pack_26 : decode cX9_pack 26 = .ok (.ireturn, 1) := by decide +kernel
theorem dX9_pack_27 : decode cX9_pack 27 = .ok (.aload_n 0, 1) := by decide +kernel
theorem dX9_pack_28 : decode cX9_pack 28 = .ok (.getfield 16, 3) := by decide +kernel
theorem dX9_pack_31 : decode cX9_pack 31 = .ok (.iload_n 1, 1) := by decide +kernel
theorem dX9_pack_32 : decode cX9_pack 32 = .ok (.invokeinterface 57 2, 5) := by decide +kernel
theorem dX9_pack_37 : decode cX9_pack 37 = .ok (.checkcast 50, 3) := by decide +kernel
theorem dX9_pack_40 : decode cX9_pack 40 = .ok (.astore_n 3, 1) := by decide +kernel
theorem dX9_pack_41 : decode cX9_pack 41 = .ok (.aload_n 3, 1) := by decide +kernel
theorem dX9_pack_42 : decode cX9_pack 42 = .ok (.getfield 148, 3) := by decide +kernel
theorem dX9_pack_45 : decode cX9_pack 45 = .ok (.ifCond .eq 9, 3) := by decide +kernel
theorem dX9_pack_48 : decode cX9_pack 48 = .ok (.aload_n 0, 1) := by decide +kernel
theorem dX9_pack_49 : decode cX9_pack 49 = .ok (.iconst 2, 1) := by decide +kernel
theorem dX9_pack_50 : decode cX9_pack 50 = .ok (.invokevirtual 126, 3) := by decide +kernel
theorem dX9_pack_53 : decode cX9_pack 53 = .ok (.ireturn, 1) := by decide +kernel
theorem dX9_pack_54 : decode cX9_pack 54 = .ok (.aload_n 3, 1) := by decide +kernel
theorem dX9_pack_55 : decode cX9_pack 55 = .ok (.iconst 0, 1) := by decide +kernel
theorem dX9_pack_56 : decode cX9_pack 56 = .ok (.bipush 9, 2) := by decide +kernel
theorem dX9_pack_58 : decode cX9_pack 58 = .ok (.aload_n 0, 1) := by decide +kernel
theorem dX9_pack_59 : decode cX9_pack 59 = .ok (.getfield 10, 3) := by decide +kernel
theorem dX9_pack_62 : decode cX9_pack 62 = .ok (.iload_n 2, 1) := by decide +kernel
theorem dX9_pack_63 : decode cX9_pack 63 = .ok (.invokeinterface 57 2, 5) := by decide +kernel
theorem dX9_pack_68 : decode cX9_pack 68 = .ok (.checkcast 44, 3) := by decide +kernel
theorem dX9_pack_71 : decode cX9_pack 71 = .ok (.getfield 152, 3) := by decide +kernel
theorem dX9_pack_74 : decode cX9_pack 74 = .ok (.isub, 1) := by decide +kernel
theorem dX9_pack_75 : decode cX9_pack 75 = .ok (.invokestatic 155, 3) := by decide +kernel
theorem dX9_pack_78 : decode cX9_pack 78 = .ok (.putfield 159, 3) := by decide +kernel
theorem dX9_pack_81 : decode cX9_pack 81 = .ok (.aload_n 3, 1) := by decide +kernel
theorem dX9_pack_82 : decode cX9_pack 82 = .ok (.iconst 1, 1) := by decide +kernel
theorem dX9_pack_83 : decode cX9_pack 83 = .ok (.putfield 148, 3) := by decide +kernel
theorem dX9_pack_86 : decode cX9_pack 86 = .ok (.aload_n 0, 1) := by decide +kernel
theorem dX9_pack_87 : decode cX9_pack 87 = .ok (.getfield 10, 3) := by decide +kernel
theorem dX9_pack_90 : decode cX9_pack 90 = .ok (.iload_n 2, 1) := by decide +kernel
theorem dX9_pack_91 : decode cX9_pack 91 = .ok (.invokeinterface 57 2, 5) := by decide +kernel
theorem dX9_pack_96 : decode cX9_pack 96 = .ok (.checkcast 44, 3) := by decide +kernel
theorem dX9_pack_99 : decode cX9_pack 99 = .ok (.dup, 1) := by decide +kernel
theorem dX9_pack_100 : decode cX9_pack 100 = .ok (.getfield 152, 3) := by decide +kernel
theorem dX9_pack_103 : decode cX9_pack 103 = .ok (.iconst 1, 1) := by decide +kernel
theorem dX9_pack_104 : decode cX9_pack 104 = .ok (.iadd, 1) := by decide +kernel
theorem dX9_pack_105 : decode cX9_pack 105 = .ok (.putfield 152, 3) := by decide +kernel
theorem dX9_pack_108 : decode cX9_pack 108 = .ok (.aload_n 3, 1) := by decide +kernel
theorem dX9_pack_109 : decode cX9_pack 109 = .ok (.getfield 159, 3) := by decide +kernel
theorem dX9_pack_112 : decode cX9_pack 112 = .ok (.ireturn, 1) := by decide +kernel
theorem dX9_renew_0 : decode cX9_renew 0 = .ok (.aload_n 0, 1) := by decide +kernel
theorem dX9_renew_1 : decode cX9_renew 1 = .ok (.iconst 0, 1) := by decide +kernel
theorem dX9_renew_2 : decode cX9_renew 2 = .ok (.putfield 30, 3) := by decide +kernel
theorem dX9_renew_5 : decode cX9_renew 5 = .ok (.aload_n 0, 1) := by decide +kernel
theorem dX9_renew_6 : decode cX9_renew 6 = .ok (.iload_n 1, 1) := by decide +kernel
theorem dX9_renew_7 : decode cX9_renew 7 = .ok (.invokevirtual 138, 3) := by decide +kernel
theorem dX9_renew_10 : decode cX9_renew 10 = .ok (.ifCond .ne 9, 3) := by decide +kernel
theorem dX9_renew_13 : decode cX9_renew 13 = .ok (.aload_n 0, 1) := by decide +kernel
theorem dX9_renew_14 : decode cX9_renew 14 = .ok (.iconst 1, 1) := by decide +kernel
theorem dX9_renew_15 : decode cX9_renew 15 = .ok (.invokevirtual 126, 3) := by decide +kernel
theorem dX9_renew_18 : decode cX9_renew 18 = .ok (.ireturn, 1) := by decide +kernel
theorem dX9_renew_19 : decode cX9_renew 19 = .ok (.aload_n 0, 1) := by decide +kernel
theorem dX9_renew_20 : decode cX9_renew 20 = .ok (.getfield 16, 3) := by decide +kernel
theorem dX9_renew_23 : decode cX9_renew 23 = .ok (.iload_n 1, 1) := by decide +kernel
theorem dX9_renew_24 : decode cX9_renew 24 = .ok (.invokeinterface 57 2, 5) := by decide +kernel
theorem dX9_renew_29 : decode cX9_renew 29 = .ok (.checkcast 50, 3) := by decide +kernel
theorem dX9_renew_32 : decode cX9_renew 32 = .ok (.aload_n 0, 1) := by decide +kernel
theorem dX9_renew_33 : decode cX9_renew 33 = .ok (.getfield 129, 3) := by decide +kernel
theorem dX9_renew_36 : decode cX9_renew 36 = .ok (.bipush 60, 2) := by decide +kernel
theorem dX9_renew_38 : decode cX9_renew 38 = .ok (.iadd, 1) := by decide +kernel
theorem dX9_renew_39 : decode cX9_renew 39 = .ok (.putfield 162, 3) := by decide +kernel
theorem dX9_renew_42 : decode cX9_renew 42 = .ok (.aload_n 0, 1) := by decide +kernel
theorem dX9_renew_43 : decode cX9_renew 43 = .ok (.getfield 129, 3) := by decide +kernel
theorem dX9_renew_46 : decode cX9_renew 46 = .ok (.bipush 60, 2) := by decide +kernel
theorem dX9_renew_48 : decode cX9_renew 48 = .ok (.iadd, 1) := by decide +kernel
theorem dX9_renew_49 : decode cX9_renew 49 = .ok (.ireturn, 1) := by decide +kernel
theorem dX9_pass_0 : decode cX9_pass 0 = .ok (.aload_n 0, 1) := by decide +kernel
theorem dX9_pass_1 : decode cX9_pass 1 = .ok (.iconst 0, 1) := by decide +kernel
theorem dX9_pass_2 : decode cX9_pass 2 = .ok (.putfield 30, 3) := by decide +kernel
theorem dX9_pass_5 : decode cX9_pass 5 = .ok (.iload_n 1, 1) := by decide +kernel
theorem dX9_pass_6 : decode cX9_pass 6 = .ok (.iconst 1, 1) := by decide +kernel
theorem dX9_pass_7 : decode cX9_pass 7 = .ok (.bipush 90, 2) := by decide +kernel
theorem dX9_pass_9 : decode cX9_pass 9 = .ok (.invokestatic 39, 3) := by decide +kernel
theorem dX9_pass_12 : decode cX9_pass 12 = .ok (.ifCond .ne 9, 3) := by decide +kernel
theorem dX9_pass_15 : decode cX9_pass 15 = .ok (.aload_n 0, 1) := by decide +kernel
theorem dX9_pass_16 : decode cX9_pass 16 = .ok (.iconst 1, 1) := by decide +kernel
theorem dX9_pass_17 : decode cX9_pass 17 = .ok (.invokevirtual 126, 3) := by decide +kernel
theorem dX9_pass_20 : decode cX9_pass 20 = .ok (.ireturn, 1) := by decide +kernel
theorem dX9_pass_21 : decode cX9_pass 21 = .ok (.aload_n 0, 1) := by decide +kernel
theorem dX9_pass_22 : decode cX9_pass 22 = .ok (.getfield 129, 3) := by decide +kernel
theorem dX9_pass_25 : decode cX9_pass 25 = .ok (.iload_n 1, 1) := by decide +kernel
theorem dX9_pass_26 : decode cX9_pass 26 = .ok (.iadd, 1) := by decide +kernel
theorem dX9_pass_27 : decode cX9_pass 27 = .ok (.sipush 500, 3) := by decide +kernel
theorem dX9_pass_30 : decode cX9_pass 30 = .ok (.if_icmp .gt 10, 3) := by decide +kernel
theorem dX9_pass_33 : decode cX9_pass 33 = .ok (.aload_n 0, 1) := by decide +kernel
theorem dX9_pass_34 : decode cX9_pass 34 = .ok (.invokevirtual 87, 3) := by decide +kernel
theorem dX9_pass_37 : decode cX9_pass 37 = .ok (.ifCond .le 9, 3) := by decide +kernel
theorem dX9_pass_40 : decode cX9_pass 40 = .ok (.aload_n 0, 1) := by decide +kernel
theorem dX9_pass_41 : decode cX9_pass 41 = .ok (.iconst 2, 1) := by decide +kernel
theorem dX9_pass_42 : decode cX9_pass 42 = .ok (.invokevirtual 126, 3) := by decide +kernel
theorem dX9_pass_45 : decode cX9_pass 45 = .ok (.ireturn, 1) := by decide +kernel
theorem dX9_pass_46 : decode cX9_pass 46 = .ok (.aload_n 0, 1) := by decide +kernel
theorem dX9_pass_47 : decode cX9_pass 47 = .ok (.dup, 1) := by decide +kernel
theorem dX9_pass_48 : decode cX9_pass 48 = .ok (.getfield 129, 3) := by decide +kernel
theorem dX9_pass_51 : decode cX9_pass 51 = .ok (.iload_n 1, 1) := by decide +kernel
theorem dX9_pass_52 : decode cX9_pass 52 = .ok (.iadd, 1) := by decide +kernel
theorem dX9_pass_53 : decode cX9_pass 53 = .ok (.putfield 129, 3) := by decide +kernel
theorem dX9_pass_56 : decode cX9_pass 56 = .ok (.iconst 0, 1) := by decide +kernel
theorem dX9_pass_57 : decode cX9_pass 57 = .ok (.istore_n 2, 1) := by decide +kernel
theorem dX9_pass_58 : decode cX9_pass 58 = .ok (.iload_n 2, 1) := by decide +kernel
theorem dX9_pass_59 : decode cX9_pass 59 = .ok (.aload_n 0, 1) := by decide +kernel
theorem dX9_pass_60 : decode cX9_pass 60 = .ok (.getfield 10, 3) := by decide +kernel
theorem dX9_pass_63 : decode cX9_pass 63 = .ok (.invokeinterface 33 1, 5) := by decide +kernel
theorem dX9_pass_68 : decode cX9_pass 68 = .ok (.if_icmp .ge 26, 3) := by decide +kernel
theorem dX9_pass_71 : decode cX9_pass 71 = .ok (.aload_n 0, 1) := by decide +kernel
theorem dX9_pass_72 : decode cX9_pass 72 = .ok (.getfield 10, 3) := by decide +kernel
theorem dX9_pass_75 : decode cX9_pass 75 = .ok (.iload_n 2, 1) := by decide +kernel
theorem dX9_pass_76 : decode cX9_pass 76 = .ok (.invokeinterface 57 2, 5) := by decide +kernel
theorem dX9_pass_81 : decode cX9_pass 81 = .ok (.checkcast 44, 3) := by decide +kernel
theorem dX9_pass_84 : decode cX9_pass 84 = .ok (.iconst 0, 1) := by decide +kernel
theorem dX9_pass_85 : decode cX9_pass 85 = .ok (.putfield 152, 3) := by decide +kernel
theorem dX9_pass_88 : decode cX9_pass 88 = .ok (.iinc 2 1, 3) := by decide +kernel
theorem dX9_pass_91 : decode cX9_pass 91 = .ok (.goto (-33), 3) := by decide +kernel
theorem dX9_pass_94 : decode cX9_pass 94 = .ok (.aload_n 0, 1) := by decide +kernel
theorem dX9_pass_95 : decode cX9_pass 95 = .ok (.getfield 129, 3) := by decide +kernel
theorem dX9_pass_98 : decode cX9_pass 98 = .ok (.ireturn, 1) := by decide +kernel
theorem dX9_wind_0 : decode cX9_wind 0 = .ok (.aload_n 0, 1) := by decide +kernel
theorem dX9_wind_1 : decode cX9_wind 1 = .ok (.iconst 0, 1) := by decide +kernel
theorem dX9_wind_2 : decode cX9_wind 2 = .ok (.putfield 30, 3) := by decide +kernel
theorem dX9_wind_5 : decode cX9_wind 5 = .ok (.iload_n 1, 1) := by decide +kernel
theorem dX9_wind_6 : decode cX9_wind 6 = .ok (.iconst 0, 1) := by decide +kernel
theorem dX9_wind_7 : decode cX9_wind 7 = .ok (.bipush 9, 2) := by decide +kernel
theorem dX9_wind_9 : decode cX9_wind 9 = .ok (.invokestatic 39, 3) := by decide +kernel
theorem dX9_wind_12 : decode cX9_wind 12 = .ok (.ifCond .ne 9, 3) := by decide +kernel
theorem dX9_wind_15 : decode cX9_wind 15 = .ok (.aload_n 0, 1) := by decide +kernel
theorem dX9_wind_16 : decode cX9_wind 16 = .ok (.iconst 1, 1) := by decide +kernel
theorem dX9_wind_17 : decode cX9_wind 17 = .ok (.invokevirtual 126, 3) := by decide +kernel
theorem dX9_wind_20 : decode cX9_wind 20 = .ok (.ireturn, 1) := by decide +kernel
theorem dX9_wind_21 : decode cX9_wind 21 = .ok (.iload_n 2, 1) := by decide +kernel
theorem dX9_wind_22 : decode cX9_wind 22 = .ok (.bipush (-20), 2) := by decide +kernel
theorem dX9_wind_24 : decode cX9_wind 24 = .ok (.bipush 20, 2) := by decide +kernel
theorem dX9_wind_26 : decode cX9_wind 26 = .ok (.invokestatic 39, 3) := by decide +kernel
theorem dX9_wind_29 : decode cX9_wind 29 = .ok (.ifCond .eq 14, 3) := by decide +kernel
theorem dX9_wind_32 : decode cX9_wind 32 = .ok (.iload_n 3, 1) := by decide +kernel
theorem dX9_wind_33 : decode cX9_wind 33 = .ok (.bipush (-20), 2) := by decide +kernel
theorem dX9_wind_35 : decode cX9_wind 35 = .ok (.bipush 20, 2) := by decide +kernel
theorem dX9_wind_37 : decode cX9_wind 37 = .ok (.invokestatic 39, 3) := by decide +kernel
theorem dX9_wind_40 : decode cX9_wind 40 = .ok (.ifCond .ne 9, 3) := by decide +kernel
theorem dX9_wind_43 : decode cX9_wind 43 = .ok (.aload_n 0, 1) := by decide +kernel
theorem dX9_wind_44 : decode cX9_wind 44 = .ok (.iconst 2, 1) := by decide +kernel
theorem dX9_wind_45 : decode cX9_wind 45 = .ok (.invokevirtual 126, 3) := by decide +kernel
theorem dX9_wind_48 : decode cX9_wind 48 = .ok (.ireturn, 1) := by decide +kernel
theorem dX9_wind_49 : decode cX9_wind 49 = .ok (.aload_n 0, 1) := by decide +kernel
theorem dX9_wind_50 : decode cX9_wind 50 = .ok (.getfield 19, 3) := by decide +kernel
theorem dX9_wind_53 : decode cX9_wind 53 = .ok (.iload_n 1, 1) := by decide +kernel
theorem dX9_wind_54 : decode cX9_wind 54 = .ok (.iload_n 2, 1) := by decide +kernel
theorem dX9_wind_55 : decode cX9_wind 55 = .ok (.iastore, 1) := by decide +kernel
theorem dX9_wind_56 : decode cX9_wind 56 = .ok (.aload_n 0, 1) := by decide +kernel
theorem dX9_wind_57 : decode cX9_wind 57 = .ok (.getfield 23, 3) := by decide +kernel
theorem dX9_wind_60 : decode cX9_wind 60 = .ok (.iload_n 1, 1) := by decide +kernel
theorem dX9_wind_61 : decode cX9_wind 61 = .ok (.iload_n 3, 1) := by decide +kernel
theorem dX9_wind_62 : decode cX9_wind 62 = .ok (.iastore, 1) := by decide +kernel
theorem dX9_wind_63 : decode cX9_wind 63 = .ok (.aload_n 0, 1) := by decide +kernel
theorem dX9_wind_64 : decode cX9_wind 64 = .ok (.invokevirtual 165, 3) := by decide +kernel
theorem dX9_wind_67 : decode cX9_wind 67 = .ok (.ireturn, 1) := by decide +kernel
theorem dX9_most_0 : decode cX9_most 0 = .ok (.aload_n 1, 1) := by decide +kernel
theorem dX9_most_1 : decode cX9_most 1 = .ok (.getfield 74, 3) := by decide +kernel
theorem dX9_most_4 : decode cX9_most 4 = .ok (.ifCond .eq 17, 3) := by decide +kernel
theorem dX9_most_7 : decode cX9_most 7 = .ok (.aload_n 0, 1) := by decide +kernel
theorem dX9_most_8 : decode cX9_most 8 = .ok (.getfield 129, 3) := by decide +kernel
theorem dX9_most_11 : decode cX9_most 11 = .ok (.aload_n 1, 1) := by decide +kernel
theorem dX9_most_12 : decode cX9_most 12 = .ok (.getfield 168, 3) := by decide +kernel
theorem dX9_most_15 : decode cX9_most 15 = .ok (.isub, 1) := by decide +kernel
theorem dX9_most_16 : decode cX9_most 16 = .ok (.bipush 30, 2) := by decide +kernel
theorem dX9_most_18 : decode cX9_most 18 = .ok (.if_icmp .le 8, 3) := by decide +kernel
theorem dX9_most_21 : decode cX9_most 21 = .ok (.ldc 171, 2) := by decide +kernel
theorem dX9_most_23 : decode cX9_most 23 = .ok (.goto 31, 3) := by decide +kernel
theorem dX9_most_26 : decode cX9_most 26 = .ok (.aload_n 1, 1) := by decide +kernel
theorem dX9_most_27 : decode cX9_most 27 = .ok (.getfield 74, 3) := by decide +kernel
theorem dX9_most_30 : decode cX9_most 30 = .ok (.iconst 1, 1) := by decide +kernel
theorem dX9_most_31 : decode cX9_most 31 = .ok (.if_icmp .ne 8, 3) := by decide +kernel
theorem dX9_most_34 : decode cX9_most 34 = .ok (.ldc 172, 2) := by decide +kernel
theorem dX9_most_36 : decode cX9_most 36 = .ok (.goto 18, 3) := by decide +kernel
theorem dX9_most_39 : decode cX9_most 39 = .ok (.aload_n 1, 1) := by decide +kernel
theorem dX9_most_40 : decode cX9_most 40 = .ok (.getfield 74, 3) := by decide +kernel
theorem dX9_most_43 : decode cX9_most 43 = .ok (.iconst 2, 1) := by decide +kernel
theorem dX9_most_44 : decode cX9_most 44 = .ok (.if_icmp .ne 8, 3) := by decide +kernel
theorem dX9_most_47 : decode cX9_most 47 = .ok (.ldc 173, 2) := by decide +kernel
theorem dX9_most_49 : decode cX9_most 49 = .ok (.goto 5, 3) := by decide +kernel
theorem dX9_most_52 : decode cX9_most 52 = .ok (.ldc 174, 2) := by decide +kernel
theorem dX9_most_54 : decode cX9_most 54 = .ok (.freturn, 1) := by decide +kernel
theorem dX9_why_0 : decode cX9_why 0 = .ok (.aload_n 1, 1) := by decide +kernel
theorem dX9_why_1 : decode cX9_why 1 = .ok (.getfield 54, 3) := by decide +kernel
theorem dX9_why_4 : decode cX9_why 4 = .ok (.iconst (-1), 1) := by decide +kernel
theorem dX9_why_5 : decode cX9_why 5 = .ok (.if_icmp .ne 5, 3) := by decide +kernel
theorem dX9_why_8 : decode cX9_why 8 = .ok (.iconst 1, 1) := by decide +kernel
theorem dX9_why_9 : decode cX9_why 9 = .ok (.ireturn, 1) := by decide +kernel
theorem dX9_why_10 : decode cX9_why 10 = .ok (.aload_n 0, 1) := by decide +kernel
theorem dX9_why_11 : decode cX9_why 11 = .ok (.getfield 16, 3) := by decide +kernel
theorem dX9_why_14 : decode cX9_why 14 = .ok (.aload_n 1, 1) := by decide +kernel
theorem dX9_why_15 : decode cX9_why 15 = .ok (.getfield 54, 3) := by decide +kernel
theorem dX9_why_18 : decode cX9_why 18 = .ok (.invokeinterface 57 2, 5) := by decide +kernel
theorem dX9_why_23 : decode cX9_why 23 = .ok (.checkcast 50, 3) := by decide +kernel
theorem dX9_why_26 : decode cX9_why 26 = .ok (.astore_n 2, 1) := by decide +kernel
theorem dX9_why_27 : decode cX9_why 27 = .ok (.aload_n 2, 1) := by decide +kernel
theorem dX9_why_28 : decode cX9_why 28 = .ok (.getfield 148, 3) := by decide +kernel
theorem dX9_why_31 : decode cX9_why 31 = .ok (.ifCond .ne 5, 3) := by decide +kernel
theorem dX9_why_34 : decode cX9_why 34 = .ok (.iconst 2, 1) := by decide +kernel
theorem dX9_why_35 : decode cX9_why 35 = .ok (.ireturn, 1) := by decide +kernel
theorem dX9_why_36 : decode cX9_why 36 = .ok (.aload_n 2, 1) := by decide +kernel
theorem dX9_why_37 : decode cX9_why 37 = .ok (.getfield 162, 3) := by decide +kernel
theorem dX9_why_40 : decode cX9_why 40 = .ok (.aload_n 0, 1) := by decide +kernel
theorem dX9_why_41 : decode cX9_why 41 = .ok (.getfield 129, 3) := by decide +kernel
theorem dX9_why_44 : decode cX9_why 44 = .ok (.if_icmp .ge 5, 3) := by decide +kernel
theorem dX9_why_47 : decode cX9_why 47 = .ok (.iconst 3, 1) := by decide +kernel
theorem dX9_why_48 : decode cX9_why 48 = .ok (.ireturn, 1) := by decide +kernel
theorem dX9_why_49 : decode cX9_why 49 = .ok (.aload_n 0, 1) := by decide +kernel
theorem dX9_why_50 : decode cX9_why 50 = .ok (.invokevirtual 165, 3) := by decide +kernel
theorem dX9_why_53 : decode cX9_why 53 = .ok (.aload_n 1, 1) := by decide +kernel
theorem dX9_why_54 : decode cX9_why 54 = .ok (.getfield 74, 3) := by decide +kernel
theorem dX9_why_57 : decode cX9_why 57 = .ok (.ifCond .ne 8, 3) := by decide +kernel
theorem dX9_why_60 : decode cX9_why 60 = .ok (.bipush 8, 2) := by decide +kernel
theorem dX9_why_62 : decode cX9_why 62 = .ok (.goto 31, 3) := by decide +kernel
theorem dX9_why_65 : decode cX9_why 65 = .ok (.aload_n 1, 1) := by decide +kernel
theorem dX9_why_66 : decode cX9_why 66 = .ok (.getfield 74, 3) := by decide +kernel
theorem dX9_why_69 : decode cX9_why 69 = .ok (.iconst 1, 1) := by decide +kernel
theorem dX9_why_70 : decode cX9_why 70 = .ok (.if_icmp .ne 8, 3) := by decide +kernel
theorem dX9_why_73 : decode cX9_why 73 = .ok (.bipush 14, 2) := by decide +kernel
theorem dX9_why_75 : decode cX9_why 75 = .ok (.goto 18, 3) := by decide +kernel
theorem dX9_why_78 : decode cX9_why 78 = .ok (.aload_n 1, 1) := by decide +kernel
theorem dX9_why_79 : decode cX9_why 79 = .ok (.getfield 74, 3) := by decide +kernel
theorem dX9_why_82 : decode cX9_why 82 = .ok (.iconst 2, 1) := by decide +kernel
theorem dX9_why_83 : decode cX9_why 83 = .ok (.if_icmp .ne 8, 3) := by decide +kernel
theorem dX9_why_86 : decode cX9_why 86 = .ok (.bipush 20, 2) := by decide +kernel
theorem dX9_why_88 : decode cX9_why 88 = .ok (.goto 5, 3) := by decide +kernel
theorem dX9_why_91 : decode cX9_why 91 = .ok (.bipush 30, 2) := by decide +kernel
theorem dX9_why_93 : decode cX9_why 93 = .ok (.if_icmp .le 5, 3) := by decide +kernel
theorem dX9_why_96 : decode cX9_why 96 = .ok (.iconst 4, 1) := by decide +kernel
theorem dX9_why_97 : decode cX9_why 97 = .ok (.ireturn, 1) := by decide +kernel
theorem dX9_why_98 : decode cX9_why 98 = .ok (.aload_n 0, 1) := by decide +kernel
theorem dX9_why_99 : decode cX9_why 99 = .ok (.aload_n 1, 1) := by decide +kernel
theorem dX9_why_100 : decode cX9_why 100 = .ok (.invokevirtual 77, 3) := by decide +kernel
theorem dX9_why_103 : decode cX9_why 103 = .ok (.aload_n 0, 1) := by decide +kernel
theorem dX9_why_104 : decode cX9_why 104 = .ok (.aload_n 1, 1) := by decide +kernel
theorem dX9_why_105 : decode cX9_why 105 = .ok (.invokevirtual 175, 3) := by decide +kernel
theorem dX9_why_108 : decode cX9_why 108 = .ok (.fcmp .l, 1) := by decide +kernel
theorem dX9_why_109 : decode cX9_why 109 = .ok (.ifCond .le 5, 3) := by decide +kernel
theorem dX9_why_112 : decode cX9_why 112 = .ok (.iconst 5, 1) := by decide +kernel
theorem dX9_why_113 : decode cX9_why 113 = .ok (.ireturn, 1) := by decide +kernel
theorem dX9_why_114 : decode cX9_why 114 = .ok (.aload_n 1, 1) := by decide +kernel
theorem dX9_why_115 : decode cX9_why 115 = .ok (.getfield 65, 3) := by decide +kernel
theorem dX9_why_118 : decode cX9_why 118 = .ok (.iconst (-1), 1) := by decide +kernel
theorem dX9_why_119 : decode cX9_why 119 = .ok (.if_icmp .ne 7, 3) := by decide +kernel
theorem dX9_why_122 : decode cX9_why 122 = .ok (.iconst 0, 1) := by decide +kernel
theorem dX9_why_123 : decode cX9_why 123 = .ok (.goto 5, 3) := by decide +kernel
theorem dX9_why_126 : decode cX9_why 126 = .ok (.bipush 6, 2) := by decide +kernel
theorem dX9_why_128 : decode cX9_why 128 = .ok (.ireturn, 1) := by decide +kernel
theorem dX9_board_0 : decode cX9_board 0 = .ok (.aload_n 0, 1) := by decide +kernel
theorem dX9_board_1 : decode cX9_board 1 = .ok (.iconst 0, 1) := by decide +kernel
theorem dX9_board_2 : decode cX9_board 2 = .ok (.putfield 30, 3) := by decide +kernel
theorem dX9_board_5 : decode cX9_board 5 = .ok (.aload_n 0, 1) := by decide +kernel
theorem dX9_board_6 : decode cX9_board 6 = .ok (.iload_n 1, 1) := by decide +kernel
theorem dX9_board_7 : decode cX9_board 7 = .ok (.invokevirtual 142, 3) := by decide +kernel
theorem dX9_board_10 : decode cX9_board 10 = .ok (.ifCond .ne 9, 3) := by decide +kernel
theorem dX9_board_13 : decode cX9_board 13 = .ok (.aload_n 0, 1) := by decide +kernel
theorem dX9_board_14 : decode cX9_board 14 = .ok (.iconst 1, 1) := by decide +kernel
theorem dX9_board_15 : decode cX9_board 15 = .ok (.invokevirtual 126, 3) := by decide +kernel
theorem dX9_board_18 : decode cX9_board 18 = .ok (.ireturn, 1) := by decide +kernel
theorem dX9_board_19 : decode cX9_board 19 = .ok (.aload_n 0, 1) := by decide +kernel
theorem dX9_board_20 : decode cX9_board 20 = .ok (.getfield 10, 3) := by decide +kernel
theorem dX9_board_23 : decode cX9_board 23 = .ok (.iload_n 1, 1) := by decide +kernel
theorem dX9_board_24 : decode cX9_board 24 = .ok (.invokeinterface 57 2, 5) := by decide +kernel
theorem dX9_board_29 : decode cX9_board 29 = .ok (.checkcast 44, 3) := by decide +kernel
theorem dX9_board_32 : decode cX9_board 32 = .ok (.astore 4, 2) := by decide +kernel
theorem dX9_board_34 : decode cX9_board 34 = .ok (.iload_n 2, 1) := by decide +kernel
theorem dX9_board_35 : decode cX9_board 35 = .ok (.iconst 0, 1) := by decide +kernel
theorem dX9_board_36 : decode cX9_board 36 = .ok (.iconst 1, 1) := by decide +kernel
theorem dX9_board_37 : decode cX9_board 37 = .ok (.invokestatic 39, 3) := by decide +kernel
theorem dX9_board_40 : decode cX9_board 40 = .ok (.ifCond .eq 25, 3) := by decide +kernel
theorem dX9_board_43 : decode cX9_board 43 = .ok (.iload_n 3, 1) := by decide +kernel
theorem dX9_board_44 : decode cX9_board 44 = .ok (.aload 4, 2) := by decide +kernel
theorem dX9_board_46 : decode cX9_board 46 = .ok (.getfield 74, 3) := by decide +kernel
theorem dX9_board_49 : decode cX9_board 49 = .ok (.ifCond .ne 7, 3) := by decide +kernel
theorem dX9_board_52 : decode cX9_board 52 = .ok (.iconst 4, 1) := by decide +kernel
theorem dX9_board_53 : decode cX9_board 53 = .ok (.goto 4, 3) := by decide +kernel
theorem dX9_board_56 : decode cX9_board 56 = .ok (.iconst 2, 1) := by decide +kernel
theorem dX9_board_57 : decode cX9_board 57 = .ok (.bipush 6, 2) := by decide +kernel
theorem dX9_board_59 : decode cX9_board 59 = .ok (.invokestatic 39, 3) := by decide +kernel
theorem dX9_board_62 : decode cX9_board 62 = .ok (.ifCond .ne 9, 3) := by decide +kernel
theorem dX9_board_65 : decode cX9_board 65 = .ok (.aload_n 0, 1) := by decide +kernel
theorem dX9_board_66 : decode cX9_board 66 = .ok (.iconst 2, 1) := by decide +kernel
theorem dX9_board_67 : decode cX9_board 67 = .ok (.invokevirtual 126, 3) := by decide +kernel
theorem dX9_board_70 : decode cX9_board 70 = .ok (.ireturn, 1) := by decide +kernel
theorem dX9_board_71 : decode cX9_board 71 = .ok (.aload_n 0, 1) := by decide +kernel
theorem dX9_board_72 : decode cX9_board 72 = .ok (.getfield 178, 3) := by decide +kernel
theorem dX9_board_75 : decode cX9_board 75 = .ok (.ifCond .ne 12, 3) := by decide +kernel
theorem dX9_board_78 : decode cX9_board 78 = .ok (.aload_n 0, 1) := by decide +kernel
theorem dX9_board_79 : decode cX9_board 79 = .ok (.invokevirtual 87, 3) := by decide +kernel
theorem dX9_board_82 : decode cX9_board 82 = .ok (.bipush 6, 2) := by decide +kernel
theorem dX9_board_84 : decode cX9_board 84 = .ok (.if_icmp .ne 9, 3) := by decide +kernel
theorem dX9_board_87 : decode cX9_board 87 = .ok (.aload_n 0, 1) := by decide +kernel
theorem dX9_board_88 : decode cX9_board 88 = .ok (.iconst 3, 1) := by decide +kernel
theorem dX9_board_89 : decode cX9_board 89 = .ok (.invokevirtual 126, 3) := by decide +kernel
theorem dX9_board_92 : decode cX9_board 92 = .ok (.ireturn, 1) := by decide +kernel
theorem dX9_board_93 : decode cX9_board 93 = .ok (.aload_n 0, 1) := by decide +kernel
theorem dX9_board_94 : decode cX9_board 94 = .ok (.aload 4, 2) := by decide +kernel
theorem dX9_board_96 : decode cX9_board 96 = .ok (.invokevirtual 181, 3) := by decide +kernel
theorem dX9_board_99 : decode cX9_board 99 = .ok (.istore 5, 2) := by decide +kernel
theorem dX9_board_101 : decode cX9_board 101 = .ok (.iload 5, 2) := by decide +kernel
theorem dX9_board_103 : decode cX9_board 103 = .ok (.ifCond .le 7, 3) := by decide +kernel
theorem dX9_board_106 : decode cX9_board 106 = .ok (.iload 5, 2) := by decide +kernel
theorem dX9_board_108 : decode cX9_board 108 = .ok (.ineg, 1) := by decide +kernel
theorem dX9_board_109 : decode cX9_board 109 = .ok (.ireturn, 1) := by decide +kernel
theorem dX9_board_110 : decode cX9_board 110 = .ok (.aload 4, 2) := by decide +kernel
theorem dX9_board_112 : decode cX9_board 112 = .ok (.iload_n 2, 1) := by decide +kernel
theorem dX9_board_113 : decode cX9_board 113 = .ok (.putfield 65, 3) := by decide +kernel
theorem dX9_board_116 : decode cX9_board 116 = .ok (.aload 4, 2) := by decide +kernel
theorem dX9_board_118 : decode cX9_board 118 = .ok (.iload_n 3, 1) := by decide +kernel
theorem dX9_board_119 : decode cX9_board 119 = .ok (.putfield 95, 3) := by decide +kernel
theorem dX9_board_122 : decode cX9_board 122 = .ok (.aload_n 0, 1) := by decide +kernel
theorem dX9_board_123 : decode cX9_board 123 = .ok (.invokevirtual 87, 3) := by decide +kernel
theorem dX9_board_126 : decode cX9_board 126 = .ok (.ireturn, 1) := by decide +kernel
theorem dX9_empty_0 : decode cX9_empty 0 = .ok (.aload_n 0, 1) := by decide +kernel
theorem dX9_empty_1 : decode cX9_empty 1 = .ok (.iconst 0, 1) := by decide +kernel
theorem dX9_empty_2 : decode cX9_empty 2 = .ok (.putfield 30, 3) := by decide +kernel
theorem dX9_empty_5 : decode cX9_empty 5 = .ok (.aload_n 0, 1) := by decide +kernel
theorem dX9_empty_6 : decode cX9_empty 6 = .ok (.invokevirtual 87, 3) := by decide +kernel
theorem dX9_empty_9 : decode cX9_empty 9 = .ok (.istore_n 1, 1) := by decide +kernel
theorem dX9_empty_10 : decode cX9_empty 10 = .ok (.iconst 0, 1) := by decide +kernel
theorem dX9_empty_11 : decode cX9_empty 11 = .ok (.istore_n 2, 1) := by decide +kernel
theorem dX9_empty_12 : decode cX9_empty 12 = .ok (.iload_n 2, 1) := by decide +kernel
theorem dX9_empty_13 : decode cX9_empty 13 = .ok (.aload_n 0, 1) := by decide +kernel
theorem dX9_empty_14 : decode cX9_empty 14 = .ok (.getfield 10, 3) := by decide +kernel
theorem dX9_empty_17 : decode cX9_empty 17 = .ok (.invokeinterface 33 1, 5) := by decide +kernel
theorem dX9_empty_22 : decode cX9_empty 22 = .ok (.if_icmp .ge 26, 3) := by decide +kernel
theorem dX9_empty_25 : decode cX9_empty 25 = .ok (.aload_n 0, 1) := by decide +kernel
theorem dX9_empty_26 : decode cX9_empty 26 = .ok (.getfield 10, 3) := by decide +kernel
theorem dX9_empty_29 : decode cX9_empty 29 = .ok (.iload_n 2, 1) := by decide +kernel
theorem dX9_empty_30 : decode cX9_empty 30 = .ok (.invokeinterface 57 2, 5) := by decide +kernel
theorem dX9_empty_35 : decode cX9_empty 35 = .ok (.checkcast 44, 3) := by decide +kernel
theorem dX9_empty_38 : decode cX9_empty 38 = .ok (.iconst (-1), 1) := by decide +kernel
theorem dX9_empty_39 : decode cX9_empty 39 = .ok (.putfield 65, 3) := by decide +kernel
theorem dX9_empty_42 : decode cX9_empty 42 = .ok (.iinc 2 1, 3) := by decide +kernel
theorem dX9_empty_45 : decode cX9_empty 45 = .ok (.goto (-33), 3) := by decide +kernel
theorem dX9_empty_48 : decode cX9_empty 48 = .ok (.iload_n 1, 1) := by decide +kernel
theorem dX9_empty_49 : decode cX9_empty 49 = .ok (.ireturn, 1) := by decide +kernel
theorem dX9_fly_0 : decode cX9_fly 0 = .ok (.aload_n 0, 1) := by decide +kernel
theorem dX9_fly_1 : decode cX9_fly 1 = .ok (.iconst 0, 1) := by decide +kernel
theorem dX9_fly_2 : decode cX9_fly 2 = .ok (.putfield 30, 3) := by decide +kernel
theorem dX9_fly_5 : decode cX9_fly 5 = .ok (.iload_n 1, 1) := by decide +kernel
theorem dX9_fly_6 : decode cX9_fly 6 = .ok (.sipush (-200), 3) := by decide +kernel
theorem dX9_fly_9 : decode cX9_fly 9 = .ok (.sipush 200, 3) := by decide +kernel
theorem dX9_fly_12 : decode cX9_fly 12 = .ok (.invokestatic 39, 3) := by decide +kernel
theorem dX9_fly_15 : decode cX9_fly 15 = .ok (.ifCond .eq 13, 3) := by decide +kernel
theorem dX9_fly_18 : decode cX9_fly 18 = .ok (.iload_n 2, 1) := by decide +kernel
theorem dX9_fly_19 : decode cX9_fly 19 = .ok (.iconst 1, 1) := by decide +kernel
theorem dX9_fly_20 : decode cX9_fly 20 = .ok (.bipush 9, 2) := by decide +kernel
theorem dX9_fly_22 : decode cX9_fly 22 = .ok (.invokestatic 39, 3) := by decide +kernel
theorem dX9_fly_25 : decode cX9_fly 25 = .ok (.ifCond .ne 9, 3) := by decide +kernel
theorem dX9_fly_28 : decode cX9_fly 28 = .ok (.aload_n 0, 1) := by decide +kernel
theorem dX9_fly_29 : decode cX9_fly 29 = .ok (.iconst 1, 1) := by decide +kernel
theorem dX9_fly_30 : decode cX9_fly 30 = .ok (.invokevirtual 126, 3) := by decide +kernel
theorem dX9_fly_33 : decode cX9_fly 33 = .ok (.ireturn, 1) := by decide +kernel
theorem dX9_fly_34 : decode cX9_fly 34 = .ok (.aload_n 0, 1) := by decide +kernel
theorem dX9_fly_35 : decode cX9_fly 35 = .ok (.getfield 178, 3) := by decide +kernel
theorem dX9_fly_38 : decode cX9_fly 38 = .ok (.ifCond .ne 10, 3) := by decide +kernel
theorem dX9_fly_41 : decode cX9_fly 41 = .ok (.aload_n 0, 1) := by decide +kernel
theorem dX9_fly_42 : decode cX9_fly 42 = .ok (.invokevirtual 87, 3) := by decide +kernel
theorem dX9_fly_45 : decode cX9_fly 45 = .ok (.ifCond .ne 9, 3) := by decide +kernel
theorem dX9_fly_48 : decode cX9_fly 48 = .ok (.aload_n 0, 1) := by decide +kernel
theorem dX9_fly_49 : decode cX9_fly 49 = .ok (.iconst 2, 1) := by decide +kernel
theorem dX9_fly_50 : decode cX9_fly 50 = .ok (.invokevirtual 126, 3) := by decide +kernel
theorem dX9_fly_53 : decode cX9_fly 53 = .ok (.ireturn, 1) := by decide +kernel
theorem dX9_fly_54 : decode cX9_fly 54 = .ok (.aload_n 0, 1) := by decide +kernel
theorem dX9_fly_55 : decode cX9_fly 55 = .ok (.iload_n 1, 1) := by decide +kernel
theorem dX9_fly_56 : decode cX9_fly 56 = .ok (.iload_n 2, 1) := by decide +kernel
theorem dX9_fly_57 : decode cX9_fly 57 = .ok (.invokevirtual 185, 3) := by decide +kernel
theorem dX9_fly_60 : decode cX9_fly 60 = .ok (.astore_n 3, 1) := by decide +kernel
theorem dX9_fly_61 : decode cX9_fly 61 = .ok (.iconst 0, 1) := by decide +kernel
theorem dX9_fly_62 : decode cX9_fly 62 = .ok (.istore 4, 2) := by decide +kernel
theorem dX9_fly_64 : decode cX9_fly 64 = .ok (.iload 4, 2) := by decide +kernel
theorem dX9_fly_66 : decode cX9_fly 66 = .ok (.aload_n 3, 1) := by decide +kernel
theorem dX9_fly_67 : decode cX9_fly 67 = .ok (.invokeinterface 33 1, 5) := by decide +kernel
theorem dX9_fly_72 : decode cX9_fly 72 = .ok (.if_icmp .ge 98, 3) := by decide +kernel
theorem dX9_fly_75 : decode cX9_fly 75 = .ok (.aload_n 0, 1) := by decide +kernel
theorem dX9_fly_76 : decode cX9_fly 76 = .ok (.getfield 16, 3) := by decide +kernel
theorem dX9_fly_79 : decode cX9_fly 79 = .ok (.aload_n 3, 1) := by decide +kernel
theorem dX9_fly_80 : decode cX9_fly 80 = .ok (.iload 4, 2) := by decide +kernel
theorem dX9_fly_82 : decode cX9_fly 82 = .ok (.invokeinterface 57 2, 5) := by decide +kernel
theorem dX9_fly_87 : decode cX9_fly 87 = .ok (.checkcast 93, 3) := by decide +kernel
theorem dX9_fly_90 : decode cX9_fly 90 = .ok (.getfield 189, 3) := by decide +kernel
theorem dX9_fly_93 : decode cX9_fly 93 = .ok (.getfield 54, 3) := by decide +kernel
theorem dX9_fly_96 : decode cX9_fly 96 = .ok (.invokeinterface 57 2, 5) := by decide +kernel
theorem dX9_fly_101 : decode cX9_fly 101 = .ok (.checkcast 50, 3) := by decide +kernel
theorem dX9_fly_104 : decode cX9_fly 104 = .ok (.astore 5, 2) := by decide +kernel
theorem dX9_fly_106 : decode cX9_fly 106 = .ok (.aload_n 0, 1) := by decide +kernel
theorem dX9_fly_107 : decode cX9_fly 107 = .ok (.iconst 5, 1) := by decide +kernel
theorem dX9_fly_108 : decode cX9_fly 108 = .ok (.aload_n 0, 1) := by decide +kernel
theorem dX9_fly_109 : decode cX9_fly 109 = .ok (.getfield 26, 3) := by decide +kernel
theorem dX9_fly_112 : decode cX9_fly 112 = .ok (.imul, 1) := by decide +kernel
theorem dX9_fly_113 : decode cX9_fly 113 = .ok (.iconst 3, 1) := by decide +kernel
theorem dX9_fly_114 : decode cX9_fly 114 = .ok (.iadd, 1) := by decide +kernel
theorem dX9_fly_115 : decode cX9_fly 115 = .ok (.bipush 32, 2) := by decide +kernel
theorem dX9_fly_117 : decode cX9_fly 117 = .ok (.irem, 1) := by decide +kernel
theorem dX9_fly_118 : decode cX9_fly 118 = .ok (.putfield 26, 3) := by decide +kernel
theorem dX9_fly_121 : decode cX9_fly 121 = .ok (.aload_n 3, 1) := by decide +kernel
theorem dX9_fly_122 : decode cX9_fly 122 = .ok (.iload 4, 2) := by decide +kernel
theorem dX9_fly_124 : decode cX9_fly 124 = .ok (.invokeinterface 57 2, 5) := by decide +kernel
theorem dX9_fly_129 : decode cX9_fly 129 = .ok (.checkcast 93, 3) := by decide +kernel
theorem dX9_fly_132 : decode cX9_fly 132 = .ok (.aload_n 0, 1) := by decide +kernel
theorem dX9_fly_133 : decode cX9_fly 133 = .ok (.getfield 26, 3) := by decide +kernel
theorem dX9_fly_136 : decode cX9_fly 136 = .ok (.bipush 9, 2) := by decide +kernel
theorem dX9_fly_138 : decode cX9_fly 138 = .ok (.aload 5, 2) := by decide +kernel
theorem dX9_fly_140 : decode cX9_fly 140 = .ok (.getfield 159, 3) := by decide +kernel
theorem dX9_fly_143 : decode cX9_fly 143 = .ok (.isub, 1) := by decide +kernel
theorem dX9_fly_144 : decode cX9_fly 144 = .ok (.aload 5, 2) := by decide +kernel
theorem dX9_fly_146 : decode cX9_fly 146 = .ok (.getfield 193, 3) := by decide +kernel
theorem dX9_fly_149 : decode cX9_fly 149 = .ok (.fconst 2, 1) := by decide +kernel
theorem dX9_fly_150 : decode cX9_fly 150 = .ok (.fmul, 1) := by decide +kernel
theorem dX9_fly_151 : decode cX9_fly 151 = .ok (.f2i, 1) := by decide +kernel
theorem dX9_fly_152 : decode cX9_fly 152 = .ok (.iadd, 1) := by decide +kernel
theorem dX9_fly_153 : decode cX9_fly 153 = .ok (.if_icmp .ge 7, 3) := by decide +kernel
theorem dX9_fly_156 : decode cX9_fly 156 = .ok (.iconst 1, 1) := by decide +kernel
theorem dX9_fly_157 : decode cX9_fly 157 = .ok (.goto 4, 3) := by decide +kernel
theorem dX9_fly_160 : decode cX9_fly 160 = .ok (.iconst 0, 1) := by decide +kernel
theorem dX9_fly_161 : decode cX9_fly 161 = .ok (.putfield 197, 3) := by decide +kernel
theorem dX9_fly_164 : decode cX9_fly 164 = .ok (.iinc 4 1, 3) := by decide +kernel
theorem dX9_fly_167 : decode cX9_fly 167 = .ok (.goto (-103), 3) := by decide +kernel
theorem dX9_fly_170 : decode cX9_fly 170 = .ok (.aload_n 0, 1) := by decide +kernel
theorem dX9_fly_171 : decode cX9_fly 171 = .ok (.dup, 1) := by decide +kernel
theorem dX9_fly_172 : decode cX9_fly 172 = .ok (.getfield 200, 3) := by decide +kernel
theorem dX9_fly_175 : decode cX9_fly 175 = .ok (.aload_n 3, 1) := by decide +kernel
theorem dX9_fly_176 : decode cX9_fly 176 = .ok (.invokestatic 203, 3) := by decide +kernel
theorem dX9_fly_179 : decode cX9_fly 179 = .ok (.iadd, 1) := by decide +kernel
theorem dX9_fly_180 : decode cX9_fly 180 = .ok (.putfield 200, 3) := by decide +kernel
theorem dX9_fly_183 : decode cX9_fly 183 = .ok (.iconst 0, 1) := by decide +kernel
theorem dX9_fly_184 : decode cX9_fly 184 = .ok (.istore 4, 2) := by decide +kernel
theorem dX9_fly_186 : decode cX9_fly 186 = .ok (.iload 4, 2) := by decide +kernel
theorem dX9_fly_188 : decode cX9_fly 188 = .ok (.aload_n 3, 1) := by decide +kernel
theorem dX9_fly_189 : decode cX9_fly 189 = .ok (.invokeinterface 33 1, 5) := by decide +kernel
theorem dX9_fly_194 : decode cX9_fly 194 = .ok (.if_icmp .ge 24, 3) := by decide +kernel
theorem dX9_fly_197 : decode cX9_fly 197 = .ok (.aload_n 0, 1) := by decide +kernel
theorem dX9_fly_198 : decode cX9_fly 198 = .ok (.aload_n 3, 1) := by decide +kernel
theorem dX9_fly_199 : decode cX9_fly 199 = .ok (.iload 4, 2) := by decide +kernel
theorem dX9_fly_201 : decode cX9_fly 201 = .ok (.invokeinterface 57 2, 5) := by decide +kernel
theorem dX9_fly_206 : decode cX9_fly 206 = .ok (.checkcast 93, 3) := by decide +kernel
theorem dX9_fly_209 : decode cX9_fly 209 = .ok (.invokevirtual 207, 3) := by decide +kernel
theorem dX9_fly_212 : decode cX9_fly 212 = .ok (.iinc 4 1, 3) := by decide +kernel
theorem dX9_fly_215 : decode cX9_fly 215 = .ok (.goto (-29), 3) := by decide +kernel
theorem dX9_fly_218 : decode cX9_fly 218 = .ok (.aload_n 0, 1) := by decide +kernel
theorem dX9_fly_219 : decode cX9_fly 219 = .ok (.dup, 1) := by decide +kernel
theorem dX9_fly_220 : decode cX9_fly 220 = .ok (.getfield 211, 3) := by decide +kernel
theorem dX9_fly_223 : decode cX9_fly 223 = .ok (.iconst 1, 1) := by decide +kernel
theorem dX9_fly_224 : decode cX9_fly 224 = .ok (.iadd, 1) := by decide +kernel
theorem dX9_fly_225 : decode cX9_fly 225 = .ok (.putfield 211, 3) := by decide +kernel
theorem dX9_fly_228 : decode cX9_fly 228 = .ok (.aload_n 3, 1) := by decide +kernel
theorem dX9_fly_229 : decode cX9_fly 229 = .ok (.invokestatic 214, 3) := by decide +kernel
theorem dX9_fly_232 : decode cX9_fly 232 = .ok (.ireturn, 1) := by decide +kernel
theorem dX9_land_0 : decode cX9_land 0 = .ok (.aload_n 1, 1) := by decide +kernel
theorem dX9_land_1 : decode cX9_land 1 = .ok (.getfield 189, 3) := by decide +kernel
theorem dX9_land_4 : decode cX9_land 4 = .ok (.astore_n 2, 1) := by decide +kernel
theorem dX9_land_5 : decode cX9_land 5 = .ok (.aload_n 0, 1) := by decide +kernel
theorem dX9_land_6 : decode cX9_land 6 = .ok (.getfield 16, 3) := by decide +kernel
theorem dX9_land_9 : decode cX9_land 9 = .ok (.aload_n 2, 1) := by decide +kernel
theorem dX9_land_10 : decode cX9_land 10 = .ok (.getfield 54, 3) := by decide +kernel
theorem dX9_land_13 : decode cX9_land 13 = .ok (.invokeinterface 57 2, 5) := by decide +kernel
theorem dX9_land_18 : decode cX9_land 18 = .ok (.checkcast 50, 3) := by decide +kernel
theorem dX9_land_21 : decode cX9_land 21 = .ok (.astore_n 3, 1) := by decide +kernel
theorem dX9_land_22 : decode cX9_land 22 = .ok (.aload_n 3, 1) := by decide +kernel
theorem dX9_land_23 : decode cX9_land 23 = .ok (.iconst 0, 1) := by decide +kernel
theorem dX9_land_24 : decode cX9_land 24 = .ok (.putfield 148, 3) := by decide +kernel
theorem dX9_land_27 : decode cX9_land 27 = .ok (.aload_n 3, 1) := by decide +kernel
theorem dX9_land_28 : decode cX9_land 28 = .ok (.dup, 1) := by decide +kernel
theorem dX9_land_29 : decode cX9_land 29 = .ok (.getfield 193, 3) := by decide +kernel
theorem dX9_land_32 : decode cX9_land 32 = .ok (.aload_n 1, 1) := by decide +kernel
theorem dX9_land_33 : decode cX9_land 33 = .ok (.getfield 197, 3) := by decide +kernel
theorem dX9_land_36 : decode cX9_land 36 = .ok (.ifCond .eq 8, 3) := by decide +kernel
theorem dX9_land_39 : decode cX9_land 39 = .ok (.ldc 216, 2) := by decide +kernel
theorem dX9_land_41 : decode cX9_land 41 = .ok (.goto 5, 3) := by decide +kernel
theorem dX9_land_44 : decode cX9_land 44 = .ok (.ldc 217, 2) := by decide +kernel
theorem dX9_land_46 : decode cX9_land 46 = .ok (.fadd, 1) := by decide +kernel
theorem dX9_land_47 : decode cX9_land 47 = .ok (.putfield 193, 3) := by decide +kernel
theorem dX9_land_50 : decode cX9_land 50 = .ok (.aload_n 3, 1) := by decide +kernel
theorem dX9_land_51 : decode cX9_land 51 = .ok (.aload_n 1, 1) := by decide +kernel
theorem dX9_land_52 : decode cX9_land 52 = .ok (.getfield 197, 3) := by decide +kernel
theorem dX9_land_55 : decode cX9_land 55 = .ok (.ifCond .eq 12, 3) := by decide +kernel
theorem dX9_land_58 : decode cX9_land 58 = .ok (.aload_n 0, 1) := by decide +kernel
theorem dX9_land_59 : decode cX9_land 59 = .ok (.getfield 129, 3) := by decide +kernel
theorem dX9_land_62 : decode cX9_land 62 = .ok (.iconst 1, 1) := by decide +kernel
theorem dX9_land_63 : decode cX9_land 63 = .ok (.isub, 1) := by decide +kernel
theorem dX9_land_64 : decode cX9_land 64 = .ok (.goto 7, 3) := by decide +kernel
theorem dX9_land_67 : decode cX9_land 67 = .ok (.aload_n 3, 1) := by decide +kernel
theorem dX9_land_68 : decode cX9_land 68 = .ok (.getfield 162, 3) := by decide +kernel
theorem dX9_land_71 : decode cX9_land 71 = .ok (.putfield 162, 3) := by decide +kernel
theorem dX9_land_74 : decode cX9_land 74 = .ok (.aload_n 2, 1) := by decide +kernel
theorem dX9_land_75 : decode cX9_land 75 = .ok (.dup, 1) := by decide +kernel
theorem dX9_land_76 : decode cX9_land 76 = .ok (.getfield 218, 3) := by decide +kernel
theorem dX9_land_79 : decode cX9_land 79 = .ok (.aload_n 1, 1) := by decide +kernel
theorem dX9_land_80 : decode cX9_land 80 = .ok (.getfield 197, 3) := by decide +kernel
theorem dX9_land_83 : decode cX9_land 83 = .ok (.ifCond .eq 7, 3) := by decide +kernel
theorem dX9_land_86 : decode cX9_land 86 = .ok (.iconst 1, 1) := by decide +kernel
theorem dX9_land_87 : decode cX9_land 87 = .ok (.goto 4, 3) := by decide +kernel
theorem dX9_land_90 : decode cX9_land 90 = .ok (.iconst 0, 1) := by decide +kernel
theorem dX9_land_91 : decode cX9_land 91 = .ok (.iadd, 1) := by decide +kernel
theorem dX9_land_92 : decode cX9_land 92 = .ok (.putfield 218, 3) := by decide +kernel
theorem dX9_land_95 : decode cX9_land 95 = .ok (.aload_n 0, 1) := by decide +kernel
theorem dX9_land_96 : decode cX9_land 96 = .ok (.dup, 1) := by decide +kernel
theorem dX9_land_97 : decode cX9_land 97 = .ok (.getfield 221, 3) := by decide +kernel
theorem dX9_land_100 : decode cX9_land 100 = .ok (.aload_n 1, 1) := by decide +kernel
theorem dX9_land_101 : decode cX9_land 101 = .ok (.getfield 197, 3) := by decide +kernel
theorem dX9_land_104 : decode cX9_land 104 = .ok (.ifCond .eq 7, 3) := by decide +kernel
theorem dX9_land_107 : decode cX9_land 107 = .ok (.iconst 1, 1) := by decide +kernel
theorem dX9_land_108 : decode cX9_land 108 = .ok (.goto 4, 3) := by decide +kernel
theorem dX9_land_111 : decode cX9_land 111 = .ok (.iconst 0, 1) := by decide +kernel
theorem dX9_land_112 : decode cX9_land 112 = .ok (.iadd, 1) := by decide +kernel
theorem dX9_land_113 : decode cX9_land 113 = .ok (.putfield 221, 3) := by decide +kernel
theorem dX9_land_116 : decode cX9_land 116 = .ok (.aload_n 0, 1) := by decide +kernel
theorem dX9_land_117 : decode cX9_land 117 = .ok (.dup, 1) := by decide +kernel
theorem dX9_land_118 : decode cX9_land 118 = .ok (.getfield 222, 3) := by decide +kernel
theorem dX9_land_121 : decode cX9_land 121 = .ok (.aload_n 1, 1) := by decide +kernel
theorem dX9_land_122 : decode cX9_land 122 = .ok (.invokevirtual 225, 3) := by decide +kernel
theorem dX9_land_125 : decode cX9_land 125 = .ok (.ldc2_w 229, 3) := by decide +kernel
theorem dX9_land_128 : decode cX9_land 128 = .ok (.dcmp .l, 1) := by decide +kernel
theorem dX9_land_129 : decode cX9_land 129 = .ok (.ifCond .le 7, 3) := by decide +kernel
theorem dX9_land_132 : decode cX9_land 132 = .ok (.iconst 1, 1) := by decide +kernel
theorem dX9_land_133 : decode cX9_land 133 = .ok (.goto 4, 3) := by decide +kernel
theorem dX9_land_136 : decode cX9_land 136 = .ok (.iconst 0, 1) := by decide +kernel
theorem dX9_land_137 : decode cX9_land 137 = .ok (.iadd, 1) := by decide +kernel
theorem dX9_land_138 : decode cX9_land 138 = .ok (.putfield 222, 3) := by decide +kernel
theorem dX9_land_141 : decode cX9_land 141 = .ok (.aload_n 2, 1) := by decide +kernel
theorem dX9_land_142 : decode cX9_land 142 = .ok (.aload_n 0, 1) := by decide +kernel
theorem dX9_land_143 : decode cX9_land 143 = .ok (.getfield 129, 3) := by decide +kernel
theorem dX9_land_146 : decode cX9_land 146 = .ok (.putfield 168, 3) := by decide +kernel
theorem dX9_land_149 : decode cX9_land 149 = .ok (.aload_n 2, 1) := by decide +kernel
theorem dX9_land_150 : decode cX9_land 150 = .ok (.dup, 1) := by decide +kernel
theorem dX9_land_151 : decode cX9_land 151 = .ok (.getfield 231, 3) := by decide +kernel
theorem dX9_land_154 : decode cX9_land 154 = .ok (.iconst 1, 1) := by decide +kernel
theorem dX9_land_155 : decode cX9_land 155 = .ok (.iadd, 1) := by decide +kernel
theorem dX9_land_156 : decode cX9_land 156 = .ok (.putfield 231, 3) := by decide +kernel
theorem dX9_land_159 : decode cX9_land 159 = .ok (.aload_n 0, 1) := by decide +kernel
theorem dX9_land_160 : decode cX9_land 160 = .ok (.dup, 1) := by decide +kernel
theorem dX9_land_161 : decode cX9_land 161 = .ok (.getfield 234, 3) := by decide +kernel
theorem dX9_land_164 : decode cX9_land 164 = .ok (.iconst 1, 1) := by decide +kernel
theorem dX9_land_165 : decode cX9_land 165 = .ok (.iadd, 1) := by decide +kernel
theorem dX9_land_166 : decode cX9_land 166 = .ok (.putfield 234, 3) := by decide +kernel
theorem dX9_land_169 : decode cX9_land 169 = .ok (.aload_n 2, 1) := by decide +kernel
theorem dX9_land_170 : decode cX9_land 170 = .ok (.dup, 1) := by decide +kernel
theorem dX9_land_171 : decode cX9_land 171 = .ok (.getfield 235, 3) := by decide +kernel
theorem dX9_land_174 : decode cX9_land 174 = .ok (.aload_n 1, 1) := by decide +kernel
theorem dX9_land_175 : decode cX9_land 175 = .ok (.invokevirtual 123, 3) := by decide +kernel
theorem dX9_land_178 : decode cX9_land 178 = .ok (.iadd, 1) := by decide +kernel
theorem dX9_land_179 : decode cX9_land 179 = .ok (.putfield 235, 3) := by decide +kernel
theorem dX9_land_182 : decode cX9_land 182 = .ok (.aload_n 2, 1) := by decide +kernel
theorem dX9_land_183 : decode cX9_land 183 = .ok (.aload_n 1, 1) := by decide +kernel
theorem dX9_land_184 : decode cX9_land 184 = .ok (.getfield 237, 3) := by decide +kernel
theorem dX9_land_187 : decode cX9_land 187 = .ok (.putfield 241, 3) := by decide +kernel
theorem dX9_land_190 : decode cX9_land 190 = .ok (.aload_n 2, 1) := by decide +kernel
theorem dX9_land_191 : decode cX9_land 191 = .ok (.aload_n 1, 1) := by decide +kernel
theorem dX9_land_192 : decode cX9_land 192 = .ok (.getfield 242, 3) := by decide +kernel
theorem dX9_land_195 : decode cX9_land 195 = .ok (.putfield 245, 3) := by decide +kernel
theorem dX9_land_198 : decode cX9_land 198 = .ok (.aload_n 2, 1) := by decide +kernel
theorem dX9_land_199 : decode cX9_land 199 = .ok (.iconst (-1), 1) := by decide +kernel
theorem dX9_land_200 : decode cX9_land 200 = .ok (.putfield 65, 3) := by decide +kernel
theorem dX9_land_203 : decode cX9_land 203 = .ok (.return_, 1) := by decide +kernel
theorem dX9_hold_0 : decode cX9_hold 0 = .ok (.aload_n 0, 1) := by decide +kernel
theorem dX9_hold_1 : decode cX9_hold 1 = .ok (.iconst 0, 1) := by decide +kernel
theorem dX9_hold_2 : decode cX9_hold 2 = .ok (.putfield 30, 3) := by decide +kernel
theorem dX9_hold_5 : decode cX9_hold 5 = .ok (.aload_n 0, 1) := by decide +kernel
theorem dX9_hold_6 : decode cX9_hold 6 = .ok (.getfield 178, 3) := by decide +kernel
theorem dX9_hold_9 : decode cX9_hold 9 = .ok (.istore_n 2, 1) := by decide +kernel
theorem dX9_hold_10 : decode cX9_hold 10 = .ok (.aload_n 0, 1) := by decide +kernel
theorem dX9_hold_11 : decode cX9_hold 11 = .ok (.iload_n 1, 1) := by decide +kernel
theorem dX9_hold_12 : decode cX9_hold 12 = .ok (.putfield 178, 3) := by decide +kernel
theorem dX9_hold_15 : decode cX9_hold 15 = .ok (.iload_n 2, 1) := by decide +kernel
theorem dX9_hold_16 : decode cX9_hold 16 = .ok (.ireturn, 1) := by decide +kernel
theorem dX9_gong_0 : decode cX9_gong 0 = .ok (.aload_n 0, 1) := by decide +kernel
theorem dX9_gong_1 : decode cX9_gong 1 = .ok (.iconst 0, 1) := by decide +kernel
theorem dX9_gong_2 : decode cX9_gong 2 = .ok (.putfield 30, 3) := by decide +kernel
theorem dX9_gong_5 : decode cX9_gong 5 = .ok (.aload_n 0, 1) := by decide +kernel
theorem dX9_gong_6 : decode cX9_gong 6 = .ok (.dup, 1) := by decide +kernel
theorem dX9_gong_7 : decode cX9_gong 7 = .ok (.getfield 246, 3) := by decide +kernel
theorem dX9_gong_10 : decode cX9_gong 10 = .ok (.iconst 1, 1) := by decide +kernel
theorem dX9_gong_11 : decode cX9_gong 11 = .ok (.iadd, 1) := by decide +kernel
theorem dX9_gong_12 : decode cX9_gong 12 = .ok (.putfield 246, 3) := by decide +kernel
theorem dX9_gong_15 : decode cX9_gong 15 = .ok (.aload_n 0, 1) := by decide +kernel
theorem dX9_gong_16 : decode cX9_gong 16 = .ok (.getfield 246, 3) := by decide +kernel
theorem dX9_gong_19 : decode cX9_gong 19 = .ok (.ireturn, 1) := by decide +kernel
theorem dX9_jumperNow_0 : decode cX9_jumperNow 0 = .ok (.aload_n 0, 1) := by decide +kernel
theorem dX9_jumperNow_1 : decode cX9_jumperNow 1 = .ok (.getfield 10, 3) := by decide +kernel
theorem dX9_jumperNow_4 : decode cX9_jumperNow 4 = .ok (.iload_n 1, 1) := by decide +kernel
theorem dX9_jumperNow_5 : decode cX9_jumperNow 5 = .ok (.invokeinterface 57 2, 5) := by decide +kernel
theorem dX9_jumperNow_10 : decode cX9_jumperNow 10 = .ok (.checkcast 44, 3) := by decide +kernel
theorem dX9_jumperNow_13 : decode cX9_jumperNow 13 = .ok (.astore_n 3, 1) := by decide +kernel
theorem dX9_jumperNow_14 : decode cX9_jumperNow 14 = .ok (.bipush 9, 2) := by decide +kernel
theorem dX9_jumperNow_16 : decode cX9_jumperNow 16 = .ok (.newarray .int, 2) := by decide +kernel
theorem dX9_jumperNow_18 : decode cX9_jumperNow 18 = .ok (.dup, 1) := by decide +kernel
theorem dX9_jumperNow_19 : decode cX9_jumperNow 19 = .ok (.iconst 0, 1) := by decide +kernel
theorem dX9_jumperNow_20 : decode cX9_jumperNow 20 = .ok (.aload_n 3, 1) := by decide +kernel
theorem dX9_jumperNow_21 : decode cX9_jumperNow 21 = .ok (.getfield 43, 3) := by decide +kernel
theorem dX9_jumperNow_24 : decode cX9_jumperNow 24 = .ok (.iastore, 1) := by decide +kernel
theorem dX9_jumperNow_25 : decode cX9_jumperNow 25 = .ok (.dup, 1) := by decide +kernel
theorem dX9_jumperNow_26 : decode cX9_jumperNow 26 = .ok (.iconst 1, 1) := by decide +kernel
theorem dX9_jumperNow_27 : decode cX9_jumperNow 27 = .ok (.aload_n 3, 1) := by decide +kernel
theorem dX9_jumperNow_28 : decode cX9_jumperNow 28 = .ok (.getfield 74, 3) := by decide +kernel
theorem dX9_jumperNow_31 : decode cX9_jumperNow 31 = .ok (.iastore, 1) := by decide +kernel
theorem dX9_jumperNow_32 : decode cX9_jumperNow 32 = .ok (.dup, 1) := by decide +kernel
theorem dX9_jumperNow_33 : decode cX9_jumperNow 33 = .ok (.iconst 2, 1) := by decide +kernel
theorem dX9_jumperNow_34 : decode cX9_jumperNow 34 = .ok (.aload_n 3, 1) := by decide +kernel
theorem dX9_jumperNow_35 : decode cX9_jumperNow 35 = .ok (.getfield 54, 3) := by decide +kernel
theorem dX9_jumperNow_38 : decode cX9_jumperNow 38 = .ok (.iastore, 1) := by decide +kernel
theorem dX9_jumperNow_39 : decode cX9_jumperNow 39 = .ok (.dup, 1) := by decide +kernel
theorem dX9_jumperNow_40 : decode cX9_jumperNow 40 = .ok (.iconst 3, 1) := by decide +kernel
theorem dX9_jumperNow_41 : decode cX9_jumperNow 41 = .ok (.aload_n 3, 1) := by decide +kernel
theorem dX9_jumperNow_42 : decode cX9_jumperNow 42 = .ok (.getfield 168, 3) := by decide +kernel
theorem dX9_jumperNow_45 : decode cX9_jumperNow 45 = .ok (.iastore, 1) := by decide +kernel
theorem dX9_jumperNow_46 : decode cX9_jumperNow 46 = .ok (.dup, 1) := by decide +kernel
theorem dX9_jumperNow_47 : decode cX9_jumperNow 47 = .ok (.iconst 4, 1) := by decide +kernel
theorem dX9_jumperNow_48 : decode cX9_jumperNow 48 = .ok (.aload_n 3, 1) := by decide +kernel
theorem dX9_jumperNow_49 : decode cX9_jumperNow 49 = .ok (.getfield 231, 3) := by decide +kernel
theorem dX9_jumperNow_52 : decode cX9_jumperNow 52 = .ok (.iastore, 1) := by decide +kernel
theorem dX9_jumperNow_53 : decode cX9_jumperNow 53 = .ok (.dup, 1) := by decide +kernel
theorem dX9_jumperNow_54 : decode cX9_jumperNow 54 = .ok (.iconst 5, 1) := by decide +kernel
theorem dX9_jumperNow_55 : decode cX9_jumperNow 55 = .ok (.aload_n 3, 1) := by decide +kernel
theorem dX9_jumperNow_56 : decode cX9_jumperNow 56 = .ok (.getfield 235, 3) := by decide +kernel
theorem dX9_jumperNow_59 : decode cX9_jumperNow 59 = .ok (.iastore, 1) := by decide +kernel
theorem dX9_jumperNow_60 : decode cX9_jumperNow 60 = .ok (.dup, 1) := by decide +kernel
theorem dX9_jumperNow_61 : decode cX9_jumperNow 61 = .ok (.bipush 6, 2) := by decide +kernel
theorem dX9_jumperNow_63 : decode cX9_jumperNow 63 = .ok (.aload_n 3, 1) := by decide +kernel
theorem dX9_jumperNow_64 : decode cX9_jumperNow 64 = .ok (.getfield 152, 3) := by decide +kernel
theorem dX9_jumperNow_67 : decode cX9_jumperNow 67 = .ok (.iastore, 1) := by decide +kernel
theorem dX9_jumperNow_68 : decode cX9_jumperNow 68 = .ok (.dup, 1) := by decide +kernel
theorem dX9_jumperNow_69 : decode cX9_jumperNow 69 = .ok (.bipush 7, 2) := by decide +kernel
theorem dX9_jumperNow_71 : decode cX9_jumperNow 71 = .ok (.aload_n 0, 1) := by decide +kernel
theorem dX9_jumperNow_72 : decode cX9_jumperNow 72 = .ok (.iload_n 1, 1) := by decide +kernel
theorem dX9_jumperNow_73 : decode cX9_jumperNow 73 = .ok (.invokevirtual 84, 3) := by decide +kernel
theorem dX9_jumperNow_76 : decode cX9_jumperNow 76 = .ok (.iastore, 1) := by decide +kernel
theorem dX9_jumperNow_77 : decode cX9_jumperNow 77 = .ok (.dup, 1) := by decide +kernel
theorem dX9_jumperNow_78 : decode cX9_jumperNow 78 = .ok (.bipush 8, 2) := by decide +kernel
theorem dX9_jumperNow_80 : decode cX9_jumperNow 80 = .ok (.aload_n 3, 1) := by decide +kernel
theorem dX9_jumperNow_81 : decode cX9_jumperNow 81 = .ok (.getfield 218, 3) := by decide +kernel
theorem dX9_jumperNow_84 : decode cX9_jumperNow 84 = .ok (.iastore, 1) := by decide +kernel
theorem dX9_jumperNow_85 : decode cX9_jumperNow 85 = .ok (.astore 4, 2) := by decide +kernel
theorem dX9_jumperNow_87 : decode cX9_jumperNow 87 = .ok (.aload 4, 2) := by decide +kernel
theorem dX9_jumperNow_89 : decode cX9_jumperNow 89 = .ok (.iload_n 2, 1) := by decide +kernel
theorem dX9_jumperNow_90 : decode cX9_jumperNow 90 = .ok (.iaload, 1) := by decide +kernel
theorem dX9_jumperNow_91 : decode cX9_jumperNow 91 = .ok (.ireturn, 1) := by decide +kernel
theorem dX9_ofJumper_0 : decode cX9_ofJumper 0 = .ok (.aload_n 0, 1) := by decide +kernel
theorem dX9_ofJumper_1 : decode cX9_ofJumper 1 = .ok (.iconst 0, 1) := by decide +kernel
theorem dX9_ofJumper_2 : decode cX9_ofJumper 2 = .ok (.putfield 30, 3) := by decide +kernel
theorem dX9_ofJumper_5 : decode cX9_ofJumper 5 = .ok (.aload_n 0, 1) := by decide +kernel
theorem dX9_ofJumper_6 : decode cX9_ofJumper 6 = .ok (.iload_n 1, 1) := by decide +kernel
theorem dX9_ofJumper_7 : decode cX9_ofJumper 7 = .ok (.invokevirtual 142, 3) := by decide +kernel
theorem dX9_ofJumper_10 : decode cX9_ofJumper 10 = .ok (.ifCond .ne 9, 3) := by decide +kernel
theorem dX9_ofJumper_13 : decode cX9_ofJumper 13 = .ok (.aload_n 0, 1) := by decide +kernel
theorem dX9_ofJumper_14 : decode cX9_ofJumper 14 = .ok (.iconst 1, 1) := by decide +kernel
theorem dX9_ofJumper_15 : decode cX9_ofJumper 15 = .ok (.invokevirtual 126, 3) := by decide +kernel
theorem dX9_ofJumper_18 : decode cX9_ofJumper 18 = .ok (.ireturn, 1) := by decide +kernel
theorem dX9_ofJumper_19 : decode cX9_ofJumper 19 = .ok (.iload_n 2, 1) := by decide +kernel
theorem dX9_ofJumper_20 : decode cX9_ofJumper 20 = .ok (.iconst 0, 1) := by decide +kernel
theorem dX9_ofJumper_21 : decode cX9_ofJumper 21 = .ok (.bipush 8, 2) := by decide +kernel
theorem dX9_ofJumper_23 : decode cX9_ofJumper 23 = .ok (.invokestatic 39, 3) := by decide +kernel
theorem dX9_ofJumper_26 : decode cX9_ofJumper 26 = .ok (.ifCond .ne 9, 3) := by decide +kernel
theorem dX9_ofJumper_29 : decode cX9_ofJumper 29 = .ok (.aload_n 0, 1) := by decide +kernel
theorem dX9_ofJumper_30 : decode cX9_ofJumper 30 = .ok (.iconst 2, 1) := by decide +kernel
theorem dX9_ofJumper_31 : decode cX9_ofJumper 31 = .ok (.invokevirtual 126, 3) := by decide +kernel
theorem dX9_ofJumper_34 : decode cX9_ofJumper 34 = .ok (.ireturn, 1) := by decide +kernel
theorem dX9_ofJumper_35 : decode cX9_ofJumper 35 = .ok (.aload_n 0, 1) := by decide +kernel
theorem dX9_ofJumper_36 : decode cX9_ofJumper 36 = .ok (.iload_n 1, 1) := by decide +kernel
theorem dX9_ofJumper_37 : decode cX9_ofJumper 37 = .ok (.iload_n 2, 1) := by decide +kernel
theorem dX9_ofJumper_38 : decode cX9_ofJumper 38 = .ok (.invokevirtual 249, 3) := by decide +kernel
theorem dX9_ofJumper_41 : decode cX9_ofJumper 41 = .ok (.ireturn, 1) := by decide +kernel
theorem dX9_loading___0 : decode cX9_loading__ 0 = .ok (.aload_n 0, 1) := by decide +kernel
theorem dX9_loading___1 : decode cX9_loading__ 1 = .ok (.iconst 0, 1) := by decide +kernel
theorem dX9_loading___2 : decode cX9_loading__ 2 = .ok (.putfield 30, 3) := by decide +kernel
theorem dX9_loading___5 : decode cX9_loading__ 5 = .ok (.aload_n 0, 1) := by decide +kernel
theorem dX9_loading___6 : decode cX9_loading__ 6 = .ok (.iload_n 1, 1) := by decide +kernel
theorem dX9_loading___7 : decode cX9_loading__ 7 = .ok (.invokevirtual 142, 3) := by decide +kernel
theorem dX9_loading___10 : decode cX9_loading__ 10 = .ok (.ifCond .ne 10, 3) := by decide +kernel
theorem dX9_loading___13 : decode cX9_loading__ 13 = .ok (.aload_n 0, 1) := by decide +kernel
theorem dX9_loading___14 : decode cX9_loading__ 14 = .ok (.iconst 1, 1) := by decide +kernel
theorem dX9_loading___15 : decode cX9_loading__ 15 = .ok (.invokevirtual 126, 3) := by decide +kernel
theorem dX9_loading___18 : decode cX9_loading__ 18 = .ok (.i2d, 1) := by decide +kernel
theorem dX9_loading___19 : decode cX9_loading__ 19 = .ok (.dreturn, 1) := by decide +kernel
theorem dX9_loading___20 : decode cX9_loading__ 20 = .ok (.aload_n 0, 1) := by decide +kernel
theorem dX9_loading___21 : decode cX9_loading__ 21 = .ok (.aload_n 0, 1) := by decide +kernel
theorem dX9_loading___22 : decode cX9_loading__ 22 = .ok (.getfield 10, 3) := by decide +kernel
theorem dX9_loading___25 : decode cX9_loading__ 25 = .ok (.iload_n 1, 1) := by decide +kernel
theorem dX9_loading___26 : decode cX9_loading__ 26 = .ok (.invokeinterface 57 2, 5) := by decide +kernel
theorem dX9_loading___31 : decode cX9_loading__ 31 = .ok (.checkcast 44, 3) := by decide +kernel
theorem dX9_loading___34 : decode cX9_loading__ 34 = .ok (.invokevirtual 77, 3) := by decide +kernel
theorem dX9_loading___37 : decode cX9_loading__ 37 = .ok (.f2d, 1) := by decide +kernel
theorem dX9_loading___38 : decode cX9_loading__ 38 = .ok (.dreturn, 1) := by decide +kernel
theorem dX9_landed_0 : decode cX9_landed 0 = .ok (.aload_n 0, 1) := by decide +kernel
theorem dX9_landed_1 : decode cX9_landed 1 = .ok (.iconst 0, 1) := by decide +kernel
theorem dX9_landed_2 : decode cX9_landed 2 = .ok (.putfield 30, 3) := by decide +kernel
theorem dX9_landed_5 : decode cX9_landed 5 = .ok (.aload_n 0, 1) := by decide +kernel
theorem dX9_landed_6 : decode cX9_landed 6 = .ok (.iload_n 1, 1) := by decide +kernel
theorem dX9_landed_7 : decode cX9_landed 7 = .ok (.invokevirtual 142, 3) := by decide +kernel
theorem dX9_landed_10 : decode cX9_landed 10 = .ok (.ifCond .ne 10, 3) := by decide +kernel
theorem dX9_landed_13 : decode cX9_landed 13 = .ok (.aload_n 0, 1) := by decide +kernel
theorem dX9_landed_14 : decode cX9_landed 14 = .ok (.iconst 1, 1) := by decide +kernel
theorem dX9_landed_15 : decode cX9_landed 15 = .ok (.invokevirtual 126, 3) := by decide +kernel
theorem dX9_landed_18 : decode cX9_landed 18 = .ok (.i2d, 1) := by decide +kernel
theorem dX9_landed_19 : decode cX9_landed 19 = .ok (.dreturn, 1) := by decide +kernel
theorem dX9_landed_20 : decode cX9_landed 20 = .ok (.iload_n 2, 1) := by decide +kernel
theorem dX9_landed_21 : decode cX9_landed 21 = .ok (.ifCond .eq 22, 3) := by decide +kernel
theorem dX9_landed_24 : decode cX9_landed 24 = .ok (.aload_n 0, 1) := by decide +kernel
theorem dX9_landed_25 : decode cX9_landed 25 = .ok (.getfield 10, 3) := by decide +kernel
theorem dX9_landed_28 : decode cX9_landed 28 = .ok (.iload_n 1, 1) := by decide +kernel
theorem dX9_landed_29 : decode cX9_landed 29 = .ok (.invokeinterface 57 2, 5) := by decide +kernel
theorem dX9_landed_34 : decode cX9_landed 34 = .ok (.checkcast 44, 3) := by decide +kernel
theorem dX9_landed_37 : decode cX9_landed 37 = .ok (.getfield 245, 3) := by decide +kernel
theorem dX9_landed_40 : decode cX9_landed 40 = .ok (.goto 19, 3) := by decide +kernel
theorem dX9_landed_43 : decode cX9_landed 43 = .ok (.aload_n 0, 1) := by decide +kernel
theorem dX9_landed_44 : decode cX9_landed 44 = .ok (.getfield 10, 3) := by decide +kernel
theorem dX9_landed_47 : decode cX9_landed 47 = .ok (.iload_n 1, 1) := by decide +kernel
theorem dX9_landed_48 : decode cX9_landed 48 = .ok (.invokeinterface 57 2, 5) := by decide +kernel
theorem dX9_landed_53 : decode cX9_landed 53 = .ok (.checkcast 44, 3) := by decide +kernel
theorem dX9_landed_56 : decode cX9_landed 56 = .ok (.getfield 241, 3) := by decide +kernel
theorem dX9_landed_59 : decode cX9_landed 59 = .ok (.dreturn, 1) := by decide +kernel
theorem dX9_refuses_0 : decode cX9_refuses 0 = .ok (.aload_n 0, 1) := by decide +kernel
theorem dX9_refuses_1 : decode cX9_refuses 1 = .ok (.iconst 0, 1) := by decide +kernel
theorem dX9_refuses_2 : decode cX9_refuses 2 = .ok (.putfield 30, 3) := by decide +kernel
theorem dX9_refuses_5 : decode cX9_refuses 5 = .ok (.aload_n 0, 1) := by decide +kernel
theorem dX9_refuses_6 : decode cX9_refuses 6 = .ok (.iload_n 1, 1) := by decide +kernel
theorem dX9_refuses_7 : decode cX9_refuses 7 = .ok (.invokevirtual 142, 3) := by decide +kernel
theorem dX9_refuses_10 : decode cX9_refuses 10 = .ok (.ifCond .ne 9, 3) := by decide +kernel
theorem dX9_refuses_13 : decode cX9_refuses 13 = .ok (.aload_n 0, 1) := by decide +kernel
theorem dX9_refuses_14 : decode cX9_refuses 14 = .ok (.iconst 1, 1) := by decide +kernel
theorem dX9_refuses_15 : decode cX9_refuses 15 = .ok (.invokevirtual 126, 3) := by decide +kernel
theorem dX9_refuses_18 : decode cX9_refuses 18 = .ok (.ireturn, 1) := by decide +kernel
theorem dX9_refuses_19 : decode cX9_refuses 19 = .ok (.aload_n 0, 1) := by decide +kernel
theorem dX9_refuses_20 : decode cX9_refuses 20 = .ok (.aload_n 0, 1) := by decide +kernel
theorem dX9_refuses_21 : decode cX9_refuses 21 = .ok (.getfield 10, 3) := by decide +kernel
theorem dX9_refuses_24 : decode cX9_refuses 24 = .ok (.iload_n 1, 1) := by decide +kernel
theorem dX9_refuses_25 : decode cX9_refuses 25 = .ok (.invokeinterface 57 2, 5) := by decide +kernel
theorem dX9_refuses_30 : decode cX9_refuses 30 = .ok (.checkcast 44, 3) := by decide +kernel
theorem dX9_refuses_33 : decode cX9_refuses 33 = .ok (.invokevirtual 181, 3) := by decide +kernel
theorem dX9_refuses_36 : decode cX9_refuses 36 = .ok (.ireturn, 1) := by decide +kernel
theorem dX9_rigNow_0 : decode cX9_rigNow 0 = .ok (.aload_n 0, 1) := by decide +kernel
theorem dX9_rigNow_1 : decode cX9_rigNow 1 = .ok (.getfield 16, 3) := by decide +kernel
theorem dX9_rigNow_4 : decode cX9_rigNow 4 = .ok (.iload_n 1, 1) := by decide +kernel
theorem dX9_rigNow_5 : decode cX9_rigNow 5 = .ok (.invokeinterface 57 2, 5) := by decide +kernel
theorem dX9_rigNow_10 : decode cX9_rigNow 10 = .ok (.checkcast 50, 3) := by decide +kernel
theorem dX9_rigNow_13 : decode cX9_rigNow 13 = .ok (.astore_n 3, 1) := by decide +kernel
theorem dX9_rigNow_14 : decode cX9_rigNow 14 = .ok (.iconst 5, 1) := by decide +kernel
theorem dX9_rigNow_15 : decode cX9_rigNow 15 = .ok (.newarray .int, 2) := by decide +kernel
theorem dX9_rigNow_17 : decode cX9_rigNow 17 = .ok (.dup, 1) := by decide +kernel
theorem dX9_rigNow_18 : decode cX9_rigNow 18 = .ok (.iconst 0, 1) := by decide +kernel
theorem dX9_rigNow_19 : decode cX9_rigNow 19 = .ok (.aload_n 3, 1) := by decide +kernel
theorem dX9_rigNow_20 : decode cX9_rigNow 20 = .ok (.getfield 49, 3) := by decide +kernel
theorem dX9_rigNow_23 : decode cX9_rigNow 23 = .ok (.iastore, 1) := by decide +kernel
theorem dX9_rigNow_24 : decode cX9_rigNow 24 = .ok (.dup, 1) := by decide +kernel
theorem dX9_rigNow_25 : decode cX9_rigNow 25 = .ok (.iconst 1, 1) := by decide +kernel
theorem dX9_rigNow_26 : decode cX9_rigNow 26 = .ok (.aload_n 3, 1) := by decide +kernel
theorem dX9_rigNow_27 : decode cX9_rigNow 27 = .ok (.getfield 162, 3) := by decide +kernel
theorem dX9_rigNow_30 : decode cX9_rigNow 30 = .ok (.iastore, 1) := by decide +kernel
theorem dX9_rigNow_31 : decode cX9_rigNow 31 = .ok (.dup, 1) := by decide +kernel
theorem dX9_rigNow_32 : decode cX9_rigNow 32 = .ok (.iconst 2, 1) := by decide +kernel
theorem dX9_rigNow_33 : decode cX9_rigNow 33 = .ok (.aload_n 3, 1) := by decide +kernel
theorem dX9_rigNow_34 : decode cX9_rigNow 34 = .ok (.getfield 159, 3) := by decide +kernel
theorem dX9_rigNow_37 : decode cX9_rigNow 37 = .ok (.iastore, 1) := by decide +kernel
theorem dX9_rigNow_38 : decode cX9_rigNow 38 = .ok (.dup, 1) := by decide +kernel
theorem dX9_rigNow_39 : decode cX9_rigNow 39 = .ok (.iconst 3, 1) := by decide +kernel
theorem dX9_rigNow_40 : decode cX9_rigNow 40 = .ok (.aload_n 3, 1) := by decide +kernel
theorem dX9_rigNow_41 : decode cX9_rigNow 41 = .ok (.getfield 148, 3) := by decide +kernel
theorem dX9_rigNow_44 : decode cX9_rigNow 44 = .ok (.ifCond .eq 7, 3) := by decide +kernel
theorem dX9_rigNow_47 : decode cX9_rigNow 47 = .ok (.iconst 1, 1) := by decide +kernel
theorem dX9_rigNow_48 : decode cX9_rigNow 48 = .ok (.goto 4, 3) := by decide +kernel
theorem dX9_rigNow_51 : decode cX9_rigNow 51 = .ok (.iconst 0, 1) := by decide +kernel
theorem dX9_rigNow_52 : decode cX9_rigNow 52 = .ok (.iastore, 1) := by decide +kernel
theorem dX9_rigNow_53 : decode cX9_rigNow 53 = .ok (.dup, 1) := by decide +kernel
theorem dX9_rigNow_54 : decode cX9_rigNow 54 = .ok (.iconst 4, 1) := by decide +kernel
theorem dX9_rigNow_55 : decode cX9_rigNow 55 = .ok (.aload_n 0, 1) := by decide +kernel
theorem dX9_rigNow_56 : decode cX9_rigNow 56 = .ok (.iload_n 1, 1) := by decide +kernel
theorem dX9_rigNow_57 : decode cX9_rigNow 57 = .ok (.invokevirtual 145, 3) := by decide +kernel
theorem dX9_rigNow_60 : decode cX9_rigNow 60 = .ok (.iastore, 1) := by decide +kernel
theorem dX9_rigNow_61 : decode cX9_rigNow 61 = .ok (.astore 4, 2) := by decide +kernel
theorem dX9_rigNow_63 : decode cX9_rigNow 63 = .ok (.aload 4, 2) := by decide +kernel
theorem dX9_rigNow_65 : decode cX9_rigNow 65 = .ok (.iload_n 2, 1) := by decide +kernel
theorem dX9_rigNow_66 : decode cX9_rigNow 66 = .ok (.iaload, 1) := by decide +kernel
theorem dX9_rigNow_67 : decode cX9_rigNow 67 = .ok (.ireturn, 1) := by decide +kernel
theorem dX9_ofRig_0 : decode cX9_ofRig 0 = .ok (.aload_n 0, 1) := by decide +kernel
theorem dX9_ofRig_1 : decode cX9_ofRig 1 = .ok (.iconst 0, 1) := by decide +kernel
theorem dX9_ofRig_2 : decode cX9_ofRig 2 = .ok (.putfield 30, 3) := by decide +kernel
theorem dX9_ofRig_5 : decode cX9_ofRig 5 = .ok (.aload_n 0, 1) := by decide +kernel
theorem dX9_ofRig_6 : decode cX9_ofRig 6 = .ok (.iload_n 1, 1) := by decide +kernel
theorem dX9_ofRig_7 : decode cX9_ofRig 7 = .ok (.invokevirtual 138, 3) := by decide +kernel
theorem dX9_ofRig_10 : decode cX9_ofRig 10 = .ok (.ifCond .ne 9, 3) := by decide +kernel
theorem dX9_ofRig_13 : decode cX9_ofRig 13 = .ok (.aload_n 0, 1) := by decide +kernel
theorem dX9_ofRig_14 : decode cX9_ofRig 14 = .ok (.iconst 1, 1) := by decide +kernel
theorem dX9_ofRig_15 : decode cX9_ofRig 15 = .ok (.invokevirtual 126, 3) := by decide +kernel
theorem dX9_ofRig_18 : decode cX9_ofRig 18 = .ok (.ireturn, 1) := by decide +kernel
theorem dX9_ofRig_19 : decode cX9_ofRig 19 = .ok (.iload_n 2, 1) := by decide +kernel
theorem dX9_ofRig_20 : decode cX9_ofRig 20 = .ok (.iconst 0, 1) := by decide +kernel
theorem dX9_ofRig_21 : decode cX9_ofRig 21 = .ok (.iconst 4, 1) := by decide +kernel
theorem dX9_ofRig_22 : decode cX9_ofRig 22 = .ok (.invokestatic 39, 3) := by decide +kernel
theorem dX9_ofRig_25 : decode cX9_ofRig 25 = .ok (.ifCond .ne 9, 3) := by decide +kernel
theorem dX9_ofRig_28 : decode cX9_ofRig 28 = .ok (.aload_n 0, 1) := by decide +kernel
theorem dX9_ofRig_29 : decode cX9_ofRig 29 = .ok (.iconst 2, 1) := by decide +kernel
theorem dX9_ofRig_30 : decode cX9_ofRig 30 = .ok (.invokevirtual 126, 3) := by decide +kernel
theorem dX9_ofRig_33 : decode cX9_ofRig 33 = .ok (.ireturn, 1) := by decide +kernel
theorem dX9_ofRig_34 : decode cX9_ofRig 34 = .ok (.aload_n 0, 1) := by decide +kernel
theorem dX9_ofRig_35 : decode cX9_ofRig 35 = .ok (.iload_n 1, 1) := by decide +kernel
theorem dX9_ofRig_36 : decode cX9_ofRig 36 = .ok (.iload_n 2, 1) := by decide +kernel
theorem dX9_ofRig_37 : decode cX9_ofRig 37 = .ok (.invokevirtual 252, 3) := by decide +kernel
theorem dX9_ofRig_40 : decode cX9_ofRig 40 = .ok (.ireturn, 1) := by decide +kernel
theorem dX9_wear_0 : decode cX9_wear 0 = .ok (.aload_n 0, 1) := by decide +kernel
theorem dX9_wear_1 : decode cX9_wear 1 = .ok (.iconst 0, 1) := by decide +kernel
theorem dX9_wear_2 : decode cX9_wear 2 = .ok (.putfield 30, 3) := by decide +kernel
theorem dX9_wear_5 : decode cX9_wear 5 = .ok (.aload_n 0, 1) := by decide +kernel
theorem dX9_wear_6 : decode cX9_wear 6 = .ok (.iload_n 1, 1) := by decide +kernel
theorem dX9_wear_7 : decode cX9_wear 7 = .ok (.invokevirtual 138, 3) := by decide +kernel
theorem dX9_wear_10 : decode cX9_wear 10 = .ok (.ifCond .ne 10, 3) := by decide +kernel
theorem dX9_wear_13 : decode cX9_wear 13 = .ok (.aload_n 0, 1) := by decide +kernel
theorem dX9_wear_14 : decode cX9_wear 14 = .ok (.iconst 1, 1) := by decide +kernel
theorem dX9_wear_15 : decode cX9_wear 15 = .ok (.invokevirtual 126, 3) := by decide +kernel
theorem dX9_wear_18 : decode cX9_wear 18 = .ok (.i2d, 1) := by decide +kernel
theorem dX9_wear_19 : decode cX9_wear 19 = .ok (.dreturn, 1) := by decide +kernel
theorem dX9_wear_20 : decode cX9_wear 20 = .ok (.aload_n 0, 1) := by decide +kernel
theorem dX9_wear_21 : decode cX9_wear 21 = .ok (.getfield 16, 3) := by decide +kernel
theorem dX9_wear_24 : decode cX9_wear 24 = .ok (.iload_n 1, 1) := by decide +kernel
theorem dX9_wear_25 : decode cX9_wear 25 = .ok (.invokeinterface 57 2, 5) := by decide +kernel
theorem dX9_wear_30 : decode cX9_wear 30 = .ok (.checkcast 50, 3) := by decide +kernel
theorem dX9_wear_33 : decode cX9_wear 33 = .ok (.getfield 193, 3) := by decide +kernel
theorem dX9_wear_36 : decode cX9_wear 36 = .ok (.f2d, 1) := by decide +kernel
theorem dX9_wear_37 : decode cX9_wear 37 = .ok (.dreturn, 1) := by decide +kernel
theorem dX9_ofWind_0 : decode cX9_ofWind 0 = .ok (.aload_n 0, 1) := by decide +kernel
theorem dX9_ofWind_1 : decode cX9_ofWind 1 = .ok (.iconst 0, 1) := by decide +kernel
theorem dX9_ofWind_2 : decode cX9_ofWind 2 = .ok (.putfield 30, 3) := by decide +kernel
theorem dX9_ofWind_5 : decode cX9_ofWind 5 = .ok (.iload_n 1, 1) := by decide +kernel
theorem dX9_ofWind_6 : decode cX9_ofWind 6 = .ok (.iconst 0, 1) := by decide +kernel
theorem dX9_ofWind_7 : decode cX9_ofWind 7 = .ok (.bipush 9, 2) := by decide +kernel
theorem dX9_ofWind_9 : decode cX9_ofWind 9 = .ok (.invokestatic 39, 3) := by decide +kernel
theorem dX9_ofWind_12 : decode cX9_ofWind 12 = .ok (.ifCond .ne 9, 3) := by decide +kernel
theorem dX9_ofWind_15 : decode cX9_ofWind 15 = .ok (.aload_n 0, 1) := by decide +kernel
theorem dX9_ofWind_16 : decode cX9_ofWind 16 = .ok (.iconst 1, 1) := by decide +kernel
theorem dX9_ofWind_17 : decode cX9_ofWind 17 = .ok (.invokevirtual 126, 3) := by decide +kernel
theorem dX9_ofWind_20 : decode cX9_ofWind 20 = .ok (.ireturn, 1) := by decide +kernel
theorem dX9_ofWind_21 : decode cX9_ofWind 21 = .ok (.iload_n 2, 1) := by decide +kernel
theorem dX9_ofWind_22 : decode cX9_ofWind 22 = .ok (.ifCond .eq 12, 3) := by decide +kernel
theorem dX9_ofWind_25 : decode cX9_ofWind 25 = .ok (.aload_n 0, 1) := by decide +kernel
theorem dX9_ofWind_26 : decode cX9_ofWind 26 = .ok (.getfield 23, 3) := by decide +kernel
theorem dX9_ofWind_29 : decode cX9_ofWind 29 = .ok (.iload_n 1, 1) := by decide +kernel
theorem dX9_ofWind_30 : decode cX9_ofWind 30 = .ok (.iaload, 1) := by decide +kernel
theorem dX9_ofWind_31 : decode cX9_ofWind 31 = .ok (.goto 9, 3) := by decide +kernel
theorem dX9_ofWind_34 : decode cX9_ofWind 34 = .ok (.aload_n 0, 1) := by decide +kernel
theorem dX9_ofWind_35 : decode cX9_ofWind 35 = .ok (.getfield 19, 3) := by decide +kernel
theorem dX9_ofWind_38 : decode cX9_ofWind 38 = .ok (.iload_n 1, 1) := by decide +kernel
theorem dX9_ofWind_39 : decode cX9_ofWind 39 = .ok (.iaload, 1) := by decide +kernel
theorem dX9_ofWind_40 : decode cX9_ofWind 40 = .ok (.ireturn, 1) := by decide +kernel
theorem dX9_manyNow_0 : decode cX9_manyNow 0 = .ok (.bipush 13, 2) := by decide +kernel
theorem dX9_manyNow_2 : decode cX9_manyNow 2 = .ok (.newarray .int, 2) := by decide +kernel
theorem dX9_manyNow_4 : decode cX9_manyNow 4 = .ok (.dup, 1) := by decide +kernel
theorem dX9_manyNow_5 : decode cX9_manyNow 5 = .ok (.iconst 0, 1) := by decide +kernel
theorem dX9_manyNow_6 : decode cX9_manyNow 6 = .ok (.aload_n 0, 1) := by decide +kernel
theorem dX9_manyNow_7 : decode cX9_manyNow 7 = .ok (.getfield 129, 3) := by decide +kernel
theorem dX9_manyNow_10 : decode cX9_manyNow 10 = .ok (.iastore, 1) := by decide +kernel
theorem dX9_manyNow_11 : decode cX9_manyNow 11 = .ok (.dup, 1) := by decide +kernel
theorem dX9_manyNow_12 : decode cX9_manyNow 12 = .ok (.iconst 1, 1) := by decide +kernel
theorem dX9_manyNow_13 : decode cX9_manyNow 13 = .ok (.aload_n 0, 1) := by decide +kernel
theorem dX9_manyNow_14 : decode cX9_manyNow 14 = .ok (.getfield 10, 3) := by decide +kernel
theorem dX9_manyNow_17 : decode cX9_manyNow 17 = .ok (.invokeinterface 33 1, 5) := by decide +kernel
theorem dX9_manyNow_22 : decode cX9_manyNow 22 = .ok (.iastore, 1) := by decide +kernel
theorem dX9_manyNow_23 : decode cX9_manyNow 23 = .ok (.dup, 1) := by decide +kernel
theorem dX9_manyNow_24 : decode cX9_manyNow 24 = .ok (.iconst 2, 1) := by decide +kernel
theorem dX9_manyNow_25 : decode cX9_manyNow 25 = .ok (.aload_n 0, 1) := by decide +kernel
theorem dX9_manyNow_26 : decode cX9_manyNow 26 = .ok (.getfield 16, 3) := by decide +kernel
theorem dX9_manyNow_29 : decode cX9_manyNow 29 = .ok (.invokeinterface 33 1, 5) := by decide +kernel
theorem dX9_manyNow_34 : decode cX9_manyNow 34 = .ok (.iastore, 1) := by decide +kernel
theorem dX9_manyNow_35 : decode cX9_manyNow 35 = .ok (.dup, 1) := by decide +kernel
theorem dX9_manyNow_36 : decode cX9_manyNow 36 = .ok (.iconst 3, 1) := by decide +kernel
theorem dX9_manyNow_37 : decode cX9_manyNow 37 = .ok (.aload_n 0, 1) := by decide +kernel
theorem dX9_manyNow_38 : decode cX9_manyNow 38 = .ok (.invokevirtual 165, 3) := by decide +kernel
theorem dX9_manyNow_41 : decode cX9_manyNow 41 = .ok (.iastore, 1) := by decide +kernel
theorem dX9_manyNow_42 : decode cX9_manyNow 42 = .ok (.dup, 1) := by decide +kernel
theorem dX9_manyNow_43 : decode cX9_manyNow 43 = .ok (.iconst 4, 1) := by decide +kernel
theorem dX9_manyNow_44 : decode cX9_manyNow 44 = .ok (.aload_n 0, 1) := by decide +kernel
theorem dX9_manyNow_45 : decode cX9_manyNow 45 = .ok (.invokevirtual 87, 3) := by decide +kernel
theorem dX9_manyNow_48 : decode cX9_manyNow 48 = .ok (.iastore, 1) := by decide +kernel
theorem dX9_manyNow_49 : decode cX9_manyNow 49 = .ok (.dup, 1) := by decide +kernel
theorem dX9_manyNow_50 : decode cX9_manyNow 50 = .ok (.iconst 5, 1) := by decide +kernel
theorem dX9_manyNow_51 : decode cX9_manyNow 51 = .ok (.aload_n 0, 1) := by decide +kernel
theorem dX9_manyNow_52 : decode cX9_manyNow 52 = .ok (.getfield 26, 3) := by decide +kernel
theorem dX9_manyNow_55 : decode cX9_manyNow 55 = .ok (.iastore, 1) := by decide +kernel
theorem dX9_manyNow_56 : decode cX9_manyNow 56 = .ok (.dup, 1) := by decide +kernel
theorem dX9_manyNow_57 : decode cX9_manyNow 57 = .ok (.bipush 6, 2) := by decide +kernel
theorem dX9_manyNow_59 : decode cX9_manyNow 59 = .ok (.aload_n 0, 1) := by decide +kernel
theorem dX9_manyNow_60 : decode cX9_manyNow 60 = .ok (.getfield 211, 3) := by decide +kernel
theorem dX9_manyNow_63 : decode cX9_manyNow 63 = .ok (.iastore, 1) := by decide +kernel
theorem dX9_manyNow_64 : decode cX9_manyNow 64 = .ok (.dup, 1) := by decide +kernel
theorem dX9_manyNow_65 : decode cX9_manyNow 65 = .ok (.bipush 7, 2) := by decide +kernel
theorem dX9_manyNow_67 : decode cX9_manyNow 67 = .ok (.aload_n 0, 1) := by decide +kernel
theorem dX9_manyNow_68 : decode cX9_manyNow 68 = .ok (.getfield 234, 3) := by decide +kernel
theorem dX9_manyNow_71 : decode cX9_manyNow 71 = .ok (.iastore, 1) := by decide +kernel
theorem dX9_manyNow_72 : decode cX9_manyNow 72 = .ok (.dup, 1) := by decide +kernel
theorem dX9_manyNow_73 : decode cX9_manyNow 73 = .ok (.bipush 8, 2) := by decide +kernel
theorem dX9_manyNow_75 : decode cX9_manyNow 75 = .ok (.aload_n 0, 1) := by decide +kernel
theorem dX9_manyNow_76 : decode cX9_manyNow 76 = .ok (.getfield 221, 3) := by decide +kernel
theorem dX9_manyNow_79 : decode cX9_manyNow 79 = .ok (.iastore, 1) := by decide +kernel
theorem dX9_manyNow_80 : decode cX9_manyNow 80 = .ok (.dup, 1) := by decide +kernel
theorem dX9_manyNow_81 : decode cX9_manyNow 81 = .ok (.bipush 9, 2) := by decide +kernel
theorem dX9_manyNow_83 : decode cX9_manyNow 83 = .ok (.aload_n 0, 1) := by decide +kernel
theorem dX9_manyNow_84 : decode cX9_manyNow 84 = .ok (.getfield 222, 3) := by decide +kernel
theorem dX9_manyNow_87 : decode cX9_manyNow 87 = .ok (.iastore, 1) := by decide +kernel
theorem dX9_manyNow_88 : decode cX9_manyNow 88 = .ok (.dup, 1) := by decide +kernel
theorem dX9_manyNow_89 : decode cX9_manyNow 89 = .ok (.bipush 10, 2) := by decide +kernel
theorem dX9_manyNow_91 : decode cX9_manyNow 91 = .ok (.aload_n 0, 1) := by decide +kernel
theorem dX9_manyNow_92 : decode cX9_manyNow 92 = .ok (.getfield 200, 3) := by decide +kernel
theorem dX9_manyNow_95 : decode cX9_manyNow 95 = .ok (.iastore, 1) := by decide +kernel
theorem dX9_manyNow_96 : decode cX9_manyNow 96 = .ok (.dup, 1) := by decide +kernel
theorem dX9_manyNow_97 : decode cX9_manyNow 97 = .ok (.bipush 11, 2) := by decide +kernel
theorem dX9_manyNow_99 : decode cX9_manyNow 99 = .ok (.aload_n 0, 1) := by decide +kernel
theorem dX9_manyNow_100 : decode cX9_manyNow 100 = .ok (.getfield 178, 3) := by decide +kernel
theorem dX9_manyNow_103 : decode cX9_manyNow 103 = .ok (.ifCond .eq 7, 3) := by decide +kernel
theorem dX9_manyNow_106 : decode cX9_manyNow 106 = .ok (.iconst 1, 1) := by decide +kernel
theorem dX9_manyNow_107 : decode cX9_manyNow 107 = .ok (.goto 4, 3) := by decide +kernel
theorem dX9_manyNow_110 : decode cX9_manyNow 110 = .ok (.iconst 0, 1) := by decide +kernel
theorem dX9_manyNow_111 : decode cX9_manyNow 111 = .ok (.iastore, 1) := by decide +kernel
theorem dX9_manyNow_112 : decode cX9_manyNow 112 = .ok (.dup, 1) := by decide +kernel
theorem dX9_manyNow_113 : decode cX9_manyNow 113 = .ok (.bipush 12, 2) := by decide +kernel
theorem dX9_manyNow_115 : decode cX9_manyNow 115 = .ok (.aload_n 0, 1) := by decide +kernel
theorem dX9_manyNow_116 : decode cX9_manyNow 116 = .ok (.getfield 246, 3) := by decide +kernel
theorem dX9_manyNow_119 : decode cX9_manyNow 119 = .ok (.iastore, 1) := by decide +kernel
theorem dX9_manyNow_120 : decode cX9_manyNow 120 = .ok (.astore_n 2, 1) := by decide +kernel
theorem dX9_manyNow_121 : decode cX9_manyNow 121 = .ok (.aload_n 2, 1) := by decide +kernel
theorem dX9_manyNow_122 : decode cX9_manyNow 122 = .ok (.iload_n 1, 1) := by decide +kernel
theorem dX9_manyNow_123 : decode cX9_manyNow 123 = .ok (.iaload, 1) := by decide +kernel
theorem dX9_manyNow_124 : decode cX9_manyNow 124 = .ok (.ireturn, 1) := by decide +kernel
theorem dX9_many_0 : decode cX9_many 0 = .ok (.aload_n 0, 1) := by decide +kernel
theorem dX9_many_1 : decode cX9_many 1 = .ok (.iconst 0, 1) := by decide +kernel
theorem dX9_many_2 : decode cX9_many 2 = .ok (.putfield 30, 3) := by decide +kernel
theorem dX9_many_5 : decode cX9_many 5 = .ok (.iload_n 1, 1) := by decide +kernel
theorem dX9_many_6 : decode cX9_many 6 = .ok (.iconst 0, 1) := by decide +kernel
theorem dX9_many_7 : decode cX9_many 7 = .ok (.bipush 12, 2) := by decide +kernel
theorem dX9_many_9 : decode cX9_many 9 = .ok (.invokestatic 39, 3) := by decide +kernel
theorem dX9_many_12 : decode cX9_many 12 = .ok (.ifCond .ne 9, 3) := by decide +kernel
theorem dX9_many_15 : decode cX9_many 15 = .ok (.aload_n 0, 1) := by decide +kernel
theorem dX9_many_16 : decode cX9_many 16 = .ok (.iconst 1, 1) := by decide +kernel
theorem dX9_many_17 : decode cX9_many 17 = .ok (.invokevirtual 126, 3) := by decide +kernel
theorem dX9_many_20 : decode cX9_many 20 = .ok (.ireturn, 1) := by decide +kernel
theorem dX9_many_21 : decode cX9_many 21 = .ok (.aload_n 0, 1) := by decide +kernel
theorem dX9_many_22 : decode cX9_many 22 = .ok (.iload_n 1, 1) := by decide +kernel
theorem dX9_many_23 : decode cX9_many 23 = .ok (.invokevirtual 255, 3) := by decide +kernel
theorem dX9_many_26 : decode cX9_many 26 = .ok (.ireturn, 1) := by decide +kernel
theorem dX9_order_0 : decode cX9_order 0 = .ok (.aload_n 0, 1) := by decide +kernel
theorem dX9_order_1 : decode cX9_order 1 = .ok (.iconst 0, 1) := by decide +kernel
theorem dX9_order_2 : decode cX9_order 2 = .ok (.putfield 30, 3) := by decide +kernel
theorem dX9_order_5 : decode cX9_order 5 = .ok (.iload_n 1, 1) := by decide +kernel
theorem dX9_order_6 : decode cX9_order 6 = .ok (.iconst 0, 1) := by decide +kernel
theorem dX9_order_7 : decode cX9_order 7 = .ok (.aload_n 0, 1) := by decide +kernel
theorem dX9_order_8 : decode cX9_order 8 = .ok (.invokevirtual 87, 3) := by decide +kernel
theorem dX9_order_11 : decode cX9_order 11 = .ok (.iconst 1, 1) := by decide +kernel
theorem dX9_order_12 : decode cX9_order 12 = .ok (.isub, 1) := by decide +kernel
theorem dX9_order_13 : decode cX9_order 13 = .ok (.invokestatic 39, 3) := by decide +kernel
theorem dX9_order_16 : decode cX9_order 16 = .ok (.ifCond .ne 9, 3) := by decide +kernel
theorem dX9_order_19 : decode cX9_order 19 = .ok (.aload_n 0, 1) := by decide +kernel
theorem dX9_order_20 : decode cX9_order 20 = .ok (.iconst 1, 1) := by decide +kernel
theorem dX9_order_21 : decode cX9_order 21 = .ok (.invokevirtual 126, 3) := by decide +kernel
theorem dX9_order_24 : decode cX9_order 24 = .ok (.ireturn, 1) := by decide +kernel
theorem dX9_order_25 : decode cX9_order 25 = .ok (.aload_n 0, 1) := by decide +kernel
theorem dX9_order_26 : decode cX9_order 26 = .ok (.iload_n 1, 1) := by decide +kernel
theorem dX9_order_27 : decode cX9_order 27 = .ok (.invokevirtual 90, 3) := by decide +kernel
theorem dX9_order_30 : decode cX9_order 30 = .ok (.ireturn, 1) := by decide +kernel
theorem dX9_refusal_0 : decode cX9_refusal 0 = .ok (.aload_n 0, 1) := by decide +kernel
theorem dX9_refusal_1 : decode cX9_refusal 1 = .ok (.iload_n 1, 1) := by decide +kernel
theorem dX9_refusal_2 : decode cX9_refusal 2 = .ok (.invokevirtual 142, 3) := by decide +kernel
theorem dX9_refusal_5 : decode cX9_refusal 5 = .ok (.ifCond .ne 5, 3) := by decide +kernel
theorem dX9_refusal_8 : decode cX9_refusal 8 = .ok (.iconst 1, 1) := by decide +kernel
theorem dX9_refusal_9 : decode cX9_refusal 9 = .ok (.ireturn, 1) := by decide +kernel
theorem dX9_refusal_10 : decode cX9_refusal 10 = .ok (.iload_n 2, 1) := by decide +kernel
theorem dX9_refusal_11 : decode cX9_refusal 11 = .ok (.iconst 0, 1) := by decide +kernel
theorem dX9_refusal_12 : decode cX9_refusal 12 = .ok (.iconst 1, 1) := by decide +kernel
theorem dX9_refusal_13 : decode cX9_refusal 13 = .ok (.invokestatic 39, 3) := by decide +kernel
theorem dX9_refusal_16 : decode cX9_refusal 16 = .ok (.ifCond .eq 27, 3) := by decide +kernel
theorem dX9_refusal_19 : decode cX9_refusal 19 = .ok (.iload_n 3, 1) := by decide +kernel
theorem dX9_refusal_20 : decode cX9_refusal 20 = .ok (.iconst 2, 1) := by decide +kernel
theorem dX9_refusal_21 : decode cX9_refusal 21 = .ok (.bipush 6, 2) := by decide +kernel
theorem dX9_refusal_23 : decode cX9_refusal 23 = .ok (.invokestatic 39, 3) := by decide +kernel
theorem dX9_refusal_26 : decode cX9_refusal 26 = .ok (.ifCond .eq 17, 3) := by decide +kernel
theorem dX9_refusal_29 : decode cX9_refusal 29 = .ok (.iload 4, 2) := by decide +kernel
theorem dX9_refusal_31 : decode cX9_refusal 31 = .ok (.sipush (-200), 3) := by decide +kernel
theorem dX9_refusal_34 : decode cX9_refusal 34 = .ok (.sipush 200, 3) := by decide +kernel
theorem dX9_refusal_37 : decode cX9_refusal 37 = .ok (.invokestatic 39, 3) := by decide +kernel
theorem dX9_refusal_40 : decode cX9_refusal 40 = .ok (.ifCond .ne 5, 3) := by decide +kernel
theorem dX9_refusal_43 : decode cX9_refusal 43 = .ok (.iconst 2, 1) := by decide +kernel
theorem dX9_refusal_44 : decode cX9_refusal 44 = .ok (.ireturn, 1) := by decide +kernel
theorem dX9_refusal_45 : decode cX9_refusal 45 = .ok (.aload_n 0, 1) := by decide +kernel
theorem dX9_refusal_46 : decode cX9_refusal 46 = .ok (.getfield 10, 3) := by decide +kernel
theorem dX9_refusal_49 : decode cX9_refusal 49 = .ok (.iload_n 1, 1) := by decide +kernel
theorem dX9_refusal_50 : decode cX9_refusal 50 = .ok (.invokeinterface 57 2, 5) := by decide +kernel
theorem dX9_refusal_55 : decode cX9_refusal 55 = .ok (.checkcast 44, 3) := by decide +kernel
theorem dX9_refusal_58 : decode cX9_refusal 58 = .ok (.getfield 54, 3) := by decide +kernel
theorem dX9_refusal_61 : decode cX9_refusal 61 = .ok (.iconst (-1), 1) := by decide +kernel
theorem dX9_refusal_62 : decode cX9_refusal 62 = .ok (.if_icmp .ne 7, 3) := by decide +kernel
theorem dX9_refusal_65 : decode cX9_refusal 65 = .ok (.iconst 3, 1) := by decide +kernel
theorem dX9_refusal_66 : decode cX9_refusal 66 = .ok (.goto 4, 3) := by decide +kernel
theorem dX9_refusal_69 : decode cX9_refusal 69 = .ok (.iconst 0, 1) := by decide +kernel
theorem dX9_refusal_70 : decode cX9_refusal 70 = .ok (.ireturn, 1) := by decide +kernel
theorem dX9_wouldLand_0 : decode cX9_wouldLand 0 = .ok (.aload_n 0, 1) := by decide +kernel
theorem dX9_wouldLand_1 : decode cX9_wouldLand 1 = .ok (.aload_n 0, 1) := by decide +kernel
theorem dX9_wouldLand_2 : decode cX9_wouldLand 2 = .ok (.iload_n 1, 1) := by decide +kernel
theorem dX9_wouldLand_3 : decode cX9_wouldLand 3 = .ok (.iload_n 2, 1) := by decide +kernel
theorem dX9_wouldLand_4 : decode cX9_wouldLand 4 = .ok (.iload_n 3, 1) := by decide +kernel
theorem dX9_wouldLand_5 : decode cX9_wouldLand 5 = .ok (.iload 4, 2) := by decide +kernel
theorem dX9_wouldLand_7 : decode cX9_wouldLand 7 = .ok (.invokevirtual 258, 3) := by decide +kernel
theorem dX9_wouldLand_10 : decode cX9_wouldLand 10 = .ok (.putfield 30, 3) := by decide +kernel
theorem dX9_wouldLand_13 : decode cX9_wouldLand 13 = .ok (.aload_n 0, 1) := by decide +kernel
theorem dX9_wouldLand_14 : decode cX9_wouldLand 14 = .ok (.getfield 30, 3) := by decide +kernel
theorem dX9_wouldLand_17 : decode cX9_wouldLand 17 = .ok (.ifCond .le 5, 3) := by decide +kernel
theorem dX9_wouldLand_20 : decode cX9_wouldLand 20 = .ok (.dconst 0, 1) := by decide +kernel
theorem dX9_wouldLand_21 : decode cX9_wouldLand 21 = .ok (.dreturn, 1) := by decide +kernel
theorem dX9_wouldLand_22 : decode cX9_wouldLand 22 = .ok (.new 93, 3) := by decide +kernel
theorem dX9_wouldLand_25 : decode cX9_wouldLand 25 = .ok (.dup, 1) := by decide +kernel
theorem dX9_wouldLand_26 : decode cX9_wouldLand 26 = .ok (.aload_n 0, 1) := by decide +kernel
theorem dX9_wouldLand_27 : decode cX9_wouldLand 27 = .ok (.aload_n 0, 1) := by decide +kernel
theorem dX9_wouldLand_28 : decode cX9_wouldLand 28 = .ok (.getfield 10, 3) := by decide +kernel
theorem dX9_wouldLand_31 : decode cX9_wouldLand 31 = .ok (.iload_n 1, 1) := by decide +kernel
theorem dX9_wouldLand_32 : decode cX9_wouldLand 32 = .ok (.invokeinterface 57 2, 5) := by decide +kernel
theorem dX9_wouldLand_37 : decode cX9_wouldLand 37 = .ok (.checkcast 44, 3) := by decide +kernel
theorem dX9_wouldLand_40 : decode cX9_wouldLand 40 = .ok (.iload_n 2, 1) := by decide +kernel
theorem dX9_wouldLand_41 : decode cX9_wouldLand 41 = .ok (.iload_n 3, 1) := by decide +kernel
theorem dX9_wouldLand_42 : decode cX9_wouldLand 42 = .ok (.iconst 0, 1) := by decide +kernel
theorem dX9_wouldLand_43 : decode cX9_wouldLand 43 = .ok (.iload 4, 2) := by decide +kernel
theorem dX9_wouldLand_45 : decode cX9_wouldLand 45 = .ok (.i2d, 1) := by decide +kernel
theorem dX9_wouldLand_46 : decode cX9_wouldLand 46 = .ok (.invokespecial 100, 3) := by decide +kernel
theorem dX9_wouldLand_49 : decode cX9_wouldLand 49 = .ok (.astore 6, 2) := by decide +kernel
theorem dX9_wouldLand_51 : decode cX9_wouldLand 51 = .ok (.aload 6, 2) := by decide +kernel
theorem dX9_wouldLand_53 : decode cX9_wouldLand 53 = .ok (.invokevirtual 112, 3) := by decide +kernel
theorem dX9_wouldLand_56 : decode cX9_wouldLand 56 = .ok (.ifCond .ne 11, 3) := by decide +kernel
theorem dX9_wouldLand_59 : decode cX9_wouldLand 59 = .ok (.aload 6, 2) := by decide +kernel
theorem dX9_wouldLand_61 : decode cX9_wouldLand 61 = .ok (.invokevirtual 116, 3) := by decide +kernel
theorem dX9_wouldLand_64 : decode cX9_wouldLand 64 = .ok (.goto (-13), 3) := by decide +kernel
theorem dX9_wouldLand_67 : decode cX9_wouldLand 67 = .ok (.iload 5, 2) := by decide +kernel
theorem dX9_wouldLand_69 : decode cX9_wouldLand 69 = .ok (.ifCond .eq 11, 3) := by decide +kernel
theorem dX9_wouldLand_72 : decode cX9_wouldLand 72 = .ok (.aload 6, 2) := by decide +kernel
theorem dX9_wouldLand_74 : decode cX9_wouldLand 74 = .ok (.getfield 242, 3) := by decide +kernel
theorem dX9_wouldLand_77 : decode cX9_wouldLand 77 = .ok (.goto 8, 3) := by decide +kernel
theorem dX9_wouldLand_80 : decode cX9_wouldLand 80 = .ok (.aload 6, 2) := by decide +kernel
theorem dX9_wouldLand_82 : decode cX9_wouldLand 82 = .ok (.getfield 237, 3) := by decide +kernel
theorem dX9_wouldLand_85 : decode cX9_wouldLand 85 = .ok (.dreturn, 1) := by decide +kernel
theorem dX9_takes_0 : decode cX9_takes 0 = .ok (.aload_n 0, 1) := by decide +kernel
theorem dX9_takes_1 : decode cX9_takes 1 = .ok (.aload_n 0, 1) := by decide +kernel
theorem dX9_takes_2 : decode cX9_takes 2 = .ok (.iload_n 1, 1) := by decide +kernel
theorem dX9_takes_3 : decode cX9_takes 3 = .ok (.iload_n 2, 1) := by decide +kernel
theorem dX9_takes_4 : decode cX9_takes 4 = .ok (.iload_n 3, 1) := by decide +kernel
theorem dX9_takes_5 : decode cX9_takes 5 = .ok (.iconst 0, 1) := by decide +kernel
theorem dX9_takes_6 : decode cX9_takes 6 = .ok (.invokevirtual 258, 3) := by decide +kernel
theorem dX9_takes_9 : decode cX9_takes 9 = .ok (.putfield 30, 3) := by decide +kernel
theorem dX9_takes_12 : decode cX9_takes 12 = .ok (.aload_n 0, 1) := by decide +kernel
theorem dX9_takes_13 : decode cX9_takes 13 = .ok (.getfield 30, 3) := by decide +kernel
theorem dX9_takes_16 : decode cX9_takes 16 = .ok (.ifCond .le 5, 3) := by decide +kernel
theorem dX9_takes_19 : decode cX9_takes 19 = .ok (.iconst 0, 1) := by decide +kernel
theorem dX9_takes_20 : decode cX9_takes 20 = .ok (.ireturn, 1) := by decide +kernel
theorem dX9_takes_21 : decode cX9_takes 21 = .ok (.new 93, 3) := by decide +kernel
theorem dX9_takes_24 : decode cX9_takes 24 = .ok (.dup, 1) := by decide +kernel
theorem dX9_takes_25 : decode cX9_takes 25 = .ok (.aload_n 0, 1) := by decide +kernel
theorem dX9_takes_26 : decode cX9_takes 26 = .ok (.aload_n 0, 1) := by decide +kernel
theorem dX9_takes_27 : decode cX9_takes 27 = .ok (.getfield 10, 3) := by decide +kernel
theorem dX9_takes_30 : decode cX9_takes 30 = .ok (.iload_n 1, 1) := by decide +kernel
theorem dX9_takes_31 : decode cX9_takes 31 = .ok (.invokeinterface 57 2, 5) := by decide +kernel
theorem dX9_takes_36 : decode cX9_takes 36 = .ok (.checkcast 44, 3) := by decide +kernel
theorem dX9_takes_39 : decode cX9_takes 39 = .ok (.iload_n 2, 1) := by decide +kernel
theorem dX9_takes_40 : decode cX9_takes 40 = .ok (.iload_n 3, 1) := by decide +kernel
theorem dX9_takes_41 : decode cX9_takes 41 = .ok (.iconst 0, 1) := by decide +kernel
theorem dX9_takes_42 : decode cX9_takes 42 = .ok (.dconst 0, 1) := by decide +kernel
theorem dX9_takes_43 : decode cX9_takes 43 = .ok (.invokespecial 100, 3) := by decide +kernel
theorem dX9_takes_46 : decode cX9_takes 46 = .ok (.astore 4, 2) := by decide +kernel
theorem dX9_takes_48 : decode cX9_takes 48 = .ok (.iconst 0, 1) := by decide +kernel
theorem dX9_takes_49 : decode cX9_takes 49 = .ok (.istore 5, 2) := by decide +kernel
theorem dX9_takes_51 : decode cX9_takes 51 = .ok (.aload 4, 2) := by decide +kernel
theorem dX9_takes_53 : decode cX9_takes 53 = .ok (.invokevirtual 112, 3) := by decide +kernel
theorem dX9_takes_56 : decode cX9_takes 56 = .ok (.ifCond .ne 14, 3) := by decide +kernel
theorem dX9_takes_59 : decode cX9_takes 59 = .ok (.aload 4, 2) := by decide +kernel
theorem dX9_takes_61 : decode cX9_takes 61 = .ok (.invokevirtual 116, 3) := by decide +kernel
theorem dX9_takes_64 : decode cX9_takes 64 = .ok (.iinc 5 1, 3) := by decide +kernel
theorem dX9_takes_67 : decode cX9_takes 67 = .ok (.goto (-16), 3) := by decide +kernel
theorem dX9_takes_70 : decode cX9_takes 70 = .ok (.iload 5, 2) := by decide +kernel
theorem dX9_takes_72 : decode cX9_takes 72 = .ok (.ireturn, 1) := by decide +kernel
theorem dX9_spotNow_0 : decode cX9_spotNow 0 = .ok (.aload_n 0, 1) := by decide +kernel
theorem dX9_spotNow_1 : decode cX9_spotNow 1 = .ok (.invokevirtual 87, 3) := by decide +kernel
theorem dX9_spotNow_4 : decode cX9_spotNow 4 = .ok (.ifCond .ne 5, 3) := by decide +kernel
theorem dX9_spotNow_7 : decode cX9_spotNow 7 = .ok (.iconst 0, 1) := by decide +kernel
theorem dX9_spotNow_8 : decode cX9_spotNow 8 = .ok (.ireturn, 1) := by decide +kernel
theorem dX9_spotNow_9 : decode cX9_spotNow 9 = .ok (.iconst 0, 1) := by decide +kernel
theorem dX9_spotNow_10 : decode cX9_spotNow 10 = .ok (.istore_n 2, 1) := by decide +kernel
theorem dX9_spotNow_11 : decode cX9_spotNow 11 = .ok (.iconst (-1), 1) := by decide +kernel
theorem dX9_spotNow_12 : decode cX9_spotNow 12 = .ok (.istore_n 3, 1) := by decide +kernel
theorem dX9_spotNow_13 : decode cX9_spotNow 13 = .ok (.iconst 0, 1) := by decide +kernel
theorem dX9_spotNow_14 : decode cX9_spotNow 14 = .ok (.istore 4, 2) := by decide +kernel
theorem dX9_spotNow_16 : decode cX9_spotNow 16 = .ok (.iload 4, 2) := by decide +kernel
theorem dX9_spotNow_18 : decode cX9_spotNow 18 = .ok (.sipush 200, 3) := by decide +kernel
theorem dX9_spotNow_21 : decode cX9_spotNow 21 = .ok (.if_icmp .gt 66, 3) := by decide +kernel
theorem dX9_spotNow_24 : decode cX9_spotNow 24 = .ok (.iconst (-1), 1) := by decide +kernel
theorem dX9_spotNow_25 : decode cX9_spotNow 25 = .ok (.istore 5, 2) := by decide +kernel
theorem dX9_spotNow_27 : decode cX9_spotNow 27 = .ok (.iload 5, 2) := by decide +kernel
theorem dX9_spotNow_29 : decode cX9_spotNow 29 = .ok (.iconst 2, 1) := by decide +kernel
theorem dX9_spotNow_30 : decode cX9_spotNow 30 = .ok (.if_icmp .ge 51, 3) := by decide +kernel
theorem dX9_spotNow_33 : decode cX9_spotNow 33 = .ok (.aload_n 0, 1) := by decide +kernel
theorem dX9_spotNow_34 : decode cX9_spotNow 34 = .ok (.iload 5, 2) := by decide +kernel
theorem dX9_spotNow_36 : decode cX9_spotNow 36 = .ok (.iload 4, 2) := by decide +kernel
theorem dX9_spotNow_38 : decode cX9_spotNow 38 = .ok (.imul, 1) := by decide +kernel
theorem dX9_spotNow_39 : decode cX9_spotNow 39 = .ok (.iload_n 1, 1) := by decide +kernel
theorem dX9_spotNow_40 : decode cX9_spotNow 40 = .ok (.invokevirtual 185, 3) := by decide +kernel
theorem dX9_spotNow_43 : decode cX9_spotNow 43 = .ok (.astore 6, 2) := by decide +kernel
theorem dX9_spotNow_45 : decode cX9_spotNow 45 = .ok (.aload 6, 2) := by decide +kernel
theorem dX9_spotNow_47 : decode cX9_spotNow 47 = .ok (.invokestatic 203, 3) := by decide +kernel
theorem dX9_spotNow_50 : decode cX9_spotNow 50 = .ok (.pop, 1) := by decide +kernel
theorem dX9_spotNow_51 : decode cX9_spotNow 51 = .ok (.aload 6, 2) := by decide +kernel
theorem dX9_spotNow_53 : decode cX9_spotNow 53 = .ok (.invokestatic 214, 3) := by decide +kernel
theorem dX9_spotNow_56 : decode cX9_spotNow 56 = .ok (.iload_n 3, 1) := by decide +kernel
theorem dX9_spotNow_57 : decode cX9_spotNow 57 = .ok (.if_icmp .gt 6, 3) := by decide +kernel
theorem dX9_spotNow_60 : decode cX9_spotNow 60 = .ok (.goto 15, 3) := by decide +kernel
theorem dX9_spotNow_63 : decode cX9_spotNow 63 = .ok (.aload 6, 2) := by decide +kernel
theorem dX9_spotNow_65 : decode cX9_spotNow 65 = .ok (.invokestatic 214, 3) := by decide +kernel
theorem dX9_spotNow_68 : decode cX9_spotNow 68 = .ok (.istore_n 3, 1) := by decide +kernel
theorem dX9_spotNow_69 : decode cX9_spotNow 69 = .ok (.iload 5, 2) := by decide +kernel
theorem dX9_spotNow_71 : decode cX9_spotNow 71 = .ok (.iload 4, 2) := by decide +kernel
theorem dX9_spotNow_73 : decode cX9_spotNow 73 = .ok (.imul, 1) := by decide +kernel
theorem dX9_spotNow_74 : decode cX9_spotNow 74 = .ok (.istore_n 2, 1) := by decide +kernel
theorem dX9_spotNow_75 : decode cX9_spotNow 75 = .ok (.iinc 5 2, 3) := by decide +kernel
theorem dX9_spotNow_78 : decode cX9_spotNow 78 = .ok (.goto (-51), 3) := by decide +kernel
theorem dX9_spotNow_81 : decode cX9_spotNow 81 = .ok (.iinc 4 20, 3) := by decide +kernel
theorem dX9_spotNow_84 : decode cX9_spotNow 84 = .ok (.goto (-68), 3) := by decide +kernel
theorem dX9_spotNow_87 : decode cX9_spotNow 87 = .ok (.iload_n 2, 1) := by decide +kernel
theorem dX9_spotNow_88 : decode cX9_spotNow 88 = .ok (.ireturn, 1) := by decide +kernel
theorem dX9_spot_0 : decode cX9_spot 0 = .ok (.aload_n 0, 1) := by decide +kernel
theorem dX9_spot_1 : decode cX9_spot 1 = .ok (.iconst 0, 1) := by decide +kernel
theorem dX9_spot_2 : decode cX9_spot 2 = .ok (.putfield 30, 3) := by decide +kernel
theorem dX9_spot_5 : decode cX9_spot 5 = .ok (.iload_n 1, 1) := by decide +kernel
theorem dX9_spot_6 : decode cX9_spot 6 = .ok (.iconst 1, 1) := by decide +kernel
theorem dX9_spot_7 : decode cX9_spot 7 = .ok (.bipush 9, 2) := by decide +kernel
theorem dX9_spot_9 : decode cX9_spot 9 = .ok (.invokestatic 39, 3) := by decide +kernel
theorem dX9_spot_12 : decode cX9_spot 12 = .ok (.ifCond .ne 9, 3) := by decide +kernel
theorem dX9_spot_15 : decode cX9_spot 15 = .ok (.aload_n 0, 1) := by decide +kernel
theorem dX9_spot_16 : decode cX9_spot 16 = .ok (.iconst 1, 1) := by decide +kernel
theorem dX9_spot_17 : decode cX9_spot 17 = .ok (.invokevirtual 126, 3) := by decide +kernel
theorem dX9_spot_20 : decode cX9_spot 20 = .ok (.ireturn, 1) := by decide +kernel
theorem dX9_spot_21 : decode cX9_spot 21 = .ok (.aload_n 0, 1) := by decide +kernel
theorem dX9_spot_22 : decode cX9_spot 22 = .ok (.iload_n 1, 1) := by decide +kernel
theorem dX9_spot_23 : decode cX9_spot 23 = .ok (.invokevirtual 262, 3) := by decide +kernel
theorem dX9_spot_26 : decode cX9_spot 26 = .ok (.ireturn, 1) := by decide +kernel
theorem dX9_wouldMeet_0 : decode cX9_wouldMeet 0 = .ok (.aload_n 0, 1) := by decide +kernel
theorem dX9_wouldMeet_1 : decode cX9_wouldMeet 1 = .ok (.iconst 0, 1) := by decide +kernel
theorem dX9_wouldMeet_2 : decode cX9_wouldMeet 2 = .ok (.putfield 30, 3) := by decide +kernel
theorem dX9_wouldMeet_5 : decode cX9_wouldMeet 5 = .ok (.iload_n 1, 1) := by decide +kernel
theorem dX9_wouldMeet_6 : decode cX9_wouldMeet 6 = .ok (.iconst 1, 1) := by decide +kernel
theorem dX9_wouldMeet_7 : decode cX9_wouldMeet 7 = .ok (.bipush 9, 2) := by decide +kernel
theorem dX9_wouldMeet_9 : decode cX9_wouldMeet 9 = .ok (.invokestatic 39, 3) := by decide +kernel
theorem dX9_wouldMeet_12 : decode cX9_wouldMeet 12 = .ok (.ifCond .eq 16, 3) := by decide +kernel
theorem dX9_wouldMeet_15 : decode cX9_wouldMeet 15 = .ok (.iload_n 2, 1) := by decide +kernel
theorem dX9_wouldMeet_16 : decode cX9_wouldMeet 16 = .ok (.sipush (-200), 3) := by decide +kernel
theorem dX9_wouldMeet_19 : decode cX9_wouldMeet 19 = .ok (.sipush 200, 3) := by decide +kernel
theorem dX9_wouldMeet_22 : decode cX9_wouldMeet 22 = .ok (.invokestatic 39, 3) := by decide +kernel
theorem dX9_wouldMeet_25 : decode cX9_wouldMeet 25 = .ok (.ifCond .ne 9, 3) := by decide +kernel
theorem dX9_wouldMeet_28 : decode cX9_wouldMeet 28 = .ok (.aload_n 0, 1) := by decide +kernel
theorem dX9_wouldMeet_29 : decode cX9_wouldMeet 29 = .ok (.iconst 1, 1) := by decide +kernel
theorem dX9_wouldMeet_30 : decode cX9_wouldMeet 30 = .ok (.invokevirtual 126, 3) := by decide +kernel
theorem dX9_wouldMeet_33 : decode cX9_wouldMeet 33 = .ok (.ireturn, 1) := by decide +kernel
theorem dX9_wouldMeet_34 : decode cX9_wouldMeet 34 = .ok (.aload_n 0, 1) := by decide +kernel
theorem dX9_wouldMeet_35 : decode cX9_wouldMeet 35 = .ok (.iload_n 2, 1) := by decide +kernel
theorem dX9_wouldMeet_36 : decode cX9_wouldMeet 36 = .ok (.iload_n 1, 1) := by decide +kernel
theorem dX9_wouldMeet_37 : decode cX9_wouldMeet 37 = .ok (.invokevirtual 185, 3) := by decide +kernel
theorem dX9_wouldMeet_40 : decode cX9_wouldMeet 40 = .ok (.invokestatic 203, 3) := by decide +kernel
theorem dX9_wouldMeet_43 : decode cX9_wouldMeet 43 = .ok (.ireturn, 1) := by decide +kernel
theorem dX9_bestNow_0 : decode cX9_bestNow 0 = .ok (.aload_n 0, 1) := by decide +kernel
theorem dX9_bestNow_1 : decode cX9_bestNow 1 = .ok (.getfield 10, 3) := by decide +kernel
theorem dX9_bestNow_4 : decode cX9_bestNow 4 = .ok (.iload_n 1, 1) := by decide +kernel
theorem dX9_bestNow_5 : decode cX9_bestNow 5 = .ok (.invokeinterface 57 2, 5) := by decide +kernel
theorem dX9_bestNow_10 : decode cX9_bestNow 10 = .ok (.checkcast 44, 3) := by decide +kernel
theorem dX9_bestNow_13 : decode cX9_bestNow 13 = .ok (.astore_n 2, 1) := by decide +kernel
theorem dX9_bestNow_14 : decode cX9_bestNow 14 = .ok (.iconst (-1), 1) := by decide +kernel
theorem dX9_bestNow_15 : decode cX9_bestNow 15 = .ok (.istore_n 3, 1) := by decide +kernel
theorem dX9_bestNow_16 : decode cX9_bestNow 16 = .ok (.iconst 0, 1) := by decide +kernel
theorem dX9_bestNow_17 : decode cX9_bestNow 17 = .ok (.istore 4, 2) := by decide +kernel
theorem dX9_bestNow_19 : decode cX9_bestNow 19 = .ok (.iload 4, 2) := by decide +kernel
theorem dX9_bestNow_21 : decode cX9_bestNow 21 = .ok (.aload_n 0, 1) := by decide +kernel
theorem dX9_bestNow_22 : decode cX9_bestNow 22 = .ok (.getfield 16, 3) := by decide +kernel
theorem dX9_bestNow_25 : decode cX9_bestNow 25 = .ok (.invokeinterface 33 1, 5) := by decide +kernel
theorem dX9_bestNow_30 : decode cX9_bestNow 30 = .ok (.if_icmp .ge 106, 3) := by decide +kernel
theorem dX9_bestNow_33 : decode cX9_bestNow 33 = .ok (.aload_n 0, 1) := by decide +kernel
theorem dX9_bestNow_34 : decode cX9_bestNow 34 = .ok (.iload 4, 2) := by decide +kernel
theorem dX9_bestNow_36 : decode cX9_bestNow 36 = .ok (.invokevirtual 145, 3) := by decide +kernel
theorem dX9_bestNow_39 : decode cX9_bestNow 39 = .ok (.iconst (-1), 1) := by decide +kernel
theorem dX9_bestNow_40 : decode cX9_bestNow 40 = .ok (.if_icmp .eq 13, 3) := by decide +kernel
theorem dX9_bestNow_43 : decode cX9_bestNow 43 = .ok (.aload_n 0, 1) := by decide +kernel
theorem dX9_bestNow_44 : decode cX9_bestNow 44 = .ok (.iload 4, 2) := by decide +kernel
theorem dX9_bestNow_46 : decode cX9_bestNow 46 = .ok (.invokevirtual 145, 3) := by decide +kernel
theorem dX9_bestNow_49 : decode cX9_bestNow 49 = .ok (.iload_n 1, 1) := by decide +kernel
theorem dX9_bestNow_50 : decode cX9_bestNow 50 = .ok (.if_icmp .ne 80, 3) := by decide +kernel
theorem dX9_bestNow_53 : decode cX9_bestNow 53 = .ok (.aload_n 2, 1) := by decide +kernel
theorem dX9_bestNow_54 : decode cX9_bestNow 54 = .ok (.aload_n 0, 1) := by decide +kernel
theorem dX9_bestNow_55 : decode cX9_bestNow 55 = .ok (.getfield 16, 3) := by decide +kernel
theorem dX9_bestNow_58 : decode cX9_bestNow 58 = .ok (.iload 4, 2) := by decide +kernel
theorem dX9_bestNow_60 : decode cX9_bestNow 60 = .ok (.invokeinterface 57 2, 5) := by decide +kernel
theorem dX9_bestNow_65 : decode cX9_bestNow 65 = .ok (.checkcast 50, 3) := by decide +kernel
theorem dX9_bestNow_68 : decode cX9_bestNow 68 = .ok (.invokestatic 61, 3) := by decide +kernel
theorem dX9_bestNow_71 : decode cX9_bestNow 71 = .ok (.aload_n 0, 1) := by decide +kernel
theorem dX9_bestNow_72 : decode cX9_bestNow 72 = .ok (.aload_n 2, 1) := by decide +kernel
theorem dX9_bestNow_73 : decode cX9_bestNow 73 = .ok (.invokevirtual 175, 3) := by decide +kernel
theorem dX9_bestNow_76 : decode cX9_bestNow 76 = .ok (.fcmp .l, 1) := by decide +kernel
theorem dX9_bestNow_77 : decode cX9_bestNow 77 = .ok (.ifCond .le 6, 3) := by decide +kernel
theorem dX9_bestNow_80 : decode cX9_bestNow 80 = .ok (.goto 50, 3) := by decide +kernel
theorem dX9_bestNow_83 : decode cX9_bestNow 83 = .ok (.iload_n 3, 1) := by decide +kernel
theorem dX9_bestNow_84 : decode cX9_bestNow 84 = .ok (.iconst (-1), 1) := by decide +kernel
theorem dX9_bestNow_85 : decode cX9_bestNow 85 = .ok (.if_icmp .eq 42, 3) := by decide +kernel
theorem dX9_bestNow_88 : decode cX9_bestNow 88 = .ok (.aload_n 2, 1) := by decide +kernel
theorem dX9_bestNow_89 : decode cX9_bestNow 89 = .ok (.aload_n 0, 1) := by decide +kernel
theorem dX9_bestNow_90 : decode cX9_bestNow 90 = .ok (.getfield 16, 3) := by decide +kernel
theorem dX9_bestNow_93 : decode cX9_bestNow 93 = .ok (.iload 4, 2) := by decide +kernel
theorem dX9_bestNow_95 : decode cX9_bestNow 95 = .ok (.invokeinterface 57 2, 5) := by decide +kernel
theorem dX9_bestNow_100 : decode cX9_bestNow 100 = .ok (.checkcast 50, 3) := by decide +kernel
theorem dX9_bestNow_103 : decode cX9_bestNow 103 = .ok (.invokestatic 61, 3) := by decide +kernel
theorem dX9_bestNow_106 : decode cX9_bestNow 106 = .ok (.aload_n 2, 1) := by decide +kernel
theorem dX9_bestNow_107 : decode cX9_bestNow 107 = .ok (.aload_n 0, 1) := by decide +kernel
theorem dX9_bestNow_108 : decode cX9_bestNow 108 = .ok (.getfield 16, 3) := by decide +kernel
theorem dX9_bestNow_111 : decode cX9_bestNow 111 = .ok (.iload_n 3, 1) := by decide +kernel
theorem dX9_bestNow_112 : decode cX9_bestNow 112 = .ok (.invokeinterface 57 2, 5) := by decide +kernel
theorem dX9_bestNow_117 : decode cX9_bestNow 117 = .ok (.checkcast 50, 3) := by decide +kernel
theorem dX9_bestNow_120 : decode cX9_bestNow 120 = .ok (.invokestatic 61, 3) := by decide +kernel
theorem dX9_bestNow_123 : decode cX9_bestNow 123 = .ok (.fcmp .l, 1) := by decide +kernel
theorem dX9_bestNow_124 : decode cX9_bestNow 124 = .ok (.ifCond .le 6, 3) := by decide +kernel
theorem dX9_bestNow_127 : decode cX9_bestNow 127 = .ok (.iload 4, 2) := by decide +kernel
theorem dX9_bestNow_129 : decode cX9_bestNow 129 = .ok (.istore_n 3, 1) := by decide +kernel
theorem dX9_bestNow_130 : decode cX9_bestNow 130 = .ok (.iinc 4 1, 3) := by decide +kernel
theorem dX9_bestNow_133 : decode cX9_bestNow 133 = .ok (.goto (-114), 3) := by decide +kernel
theorem dX9_bestNow_136 : decode cX9_bestNow 136 = .ok (.iload_n 3, 1) := by decide +kernel
theorem dX9_bestNow_137 : decode cX9_bestNow 137 = .ok (.ireturn, 1) := by decide +kernel
theorem dX9_best_0 : decode cX9_best 0 = .ok (.aload_n 0, 1) := by decide +kernel
theorem dX9_best_1 : decode cX9_best 1 = .ok (.iconst 0, 1) := by decide +kernel
theorem dX9_best_2 : decode cX9_best 2 = .ok (.putfield 30, 3) := by decide +kernel
theorem dX9_best_5 : decode cX9_best 5 = .ok (.aload_n 0, 1) := by decide +kernel
theorem dX9_best_6 : decode cX9_best 6 = .ok (.iload_n 1, 1) := by decide +kernel
theorem dX9_best_7 : decode cX9_best 7 = .ok (.invokevirtual 142, 3) := by decide +kernel
theorem dX9_best_10 : decode cX9_best 10 = .ok (.ifCond .ne 9, 3) := by decide +kernel
theorem dX9_best_13 : decode cX9_best 13 = .ok (.aload_n 0, 1) := by decide +kernel
theorem dX9_best_14 : decode cX9_best 14 = .ok (.iconst 1, 1) := by decide +kernel
theorem dX9_best_15 : decode cX9_best 15 = .ok (.invokevirtual 126, 3) := by decide +kernel
theorem dX9_best_18 : decode cX9_best 18 = .ok (.ireturn, 1) := by decide +kernel
theorem dX9_best_19 : decode cX9_best 19 = .ok (.aload_n 0, 1) := by decide +kernel
theorem dX9_best_20 : decode cX9_best 20 = .ok (.iload_n 1, 1) := by decide +kernel
theorem dX9_best_21 : decode cX9_best 21 = .ok (.invokevirtual 265, 3) := by decide +kernel
theorem dX9_best_24 : decode cX9_best 24 = .ok (.ireturn, 1) := by decide +kernel
theorem dX9_digest_0 : decode cX9_digest 0 = .ok (.aload_n 0, 1) := by decide +kernel
theorem dX9_digest_1 : decode cX9_digest 1 = .ok (.iconst 0, 1) := by decide +kernel
theorem dX9_digest_2 : decode cX9_digest 2 = .ok (.putfield 30, 3) := by decide +kernel
theorem dX9_digest_5 : decode cX9_digest 5 = .ok (.ldc2_w 268, 3) := by decide +kernel
theorem dX9_digest_8 : decode cX9_digest 8 = .ok (.lstore_n 1, 1) := by decide +kernel
theorem dX9_digest_9 : decode cX9_digest 9 = .ok (.iconst 0, 1) := by decide +kernel
theorem dX9_digest_10 : decode cX9_digest 10 = .ok (.istore_n 3, 1) := by decide +kernel
theorem dX9_digest_11 : decode cX9_digest 11 = .ok (.iload_n 3, 1) := by decide +kernel
theorem dX9_digest_12 : decode cX9_digest 12 = .ok (.bipush 12, 2) := by decide +kernel
theorem dX9_digest_14 : decode cX9_digest 14 = .ok (.if_icmp .gt 22, 3) := by decide +kernel
theorem dX9_digest_17 : decode cX9_digest 17 = .ok (.lload_n 1, 1) := by decide +kernel
theorem dX9_digest_18 : decode cX9_digest 18 = .ok (.ldc2_w 270, 3) := by decide +kernel
theorem dX9_digest_21 : decode cX9_digest 21 = .ok (.lmul, 1) := by decide +kernel
theorem dX9_digest_22 : decode cX9_digest 22 = .ok (.aload_n 0, 1) := by decide +kernel
theorem dX9_digest_23 : decode cX9_digest 23 = .ok (.iload_n 3, 1) := by decide +kernel
theorem dX9_digest_24 : decode cX9_digest 24 = .ok (.invokevirtual 255, 3) := by decide +kernel
theorem dX9_digest_27 : decode cX9_digest 27 = .ok (.i2l, 1) := by decide +kernel
theorem dX9_digest_28 : decode cX9_digest 28 = .ok (.ladd, 1) := by decide +kernel
theorem dX9_digest_29 : decode cX9_digest 29 = .ok (.lstore_n 1, 1) := by decide +kernel
theorem dX9_digest_30 : decode cX9_digest 30 = .ok (.iinc 3 1, 3) := by decide +kernel
theorem dX9_digest_33 : decode cX9_digest 33 = .ok (.goto (-22), 3) := by decide +kernel
theorem dX9_digest_36 : decode cX9_digest 36 = .ok (.iconst 0, 1) := by decide +kernel
theorem dX9_digest_37 : decode cX9_digest 37 = .ok (.istore_n 3, 1) := by decide +kernel
theorem dX9_digest_38 : decode cX9_digest 38 = .ok (.iload_n 3, 1) := by decide +kernel
theorem dX9_digest_39 : decode cX9_digest 39 = .ok (.aload_n 0, 1) := by decide +kernel
theorem dX9_digest_40 : decode cX9_digest 40 = .ok (.getfield 10, 3) := by decide +kernel
theorem dX9_digest_43 : decode cX9_digest 43 = .ok (.invokeinterface 33 1, 5) := by decide +kernel
theorem dX9_digest_48 : decode cX9_digest 48 = .ok (.if_icmp .ge 134, 3) := by decide +kernel
theorem dX9_digest_51 : decode cX9_digest 51 = .ok (.iconst 0, 1) := by decide +kernel
theorem dX9_digest_52 : decode cX9_digest 52 = .ok (.istore 4, 2) := by decide +kernel
theorem dX9_digest_54 : decode cX9_digest 54 = .ok (.iload 4, 2) := by decide +kernel
theorem dX9_digest_56 : decode cX9_digest 56 = .ok (.bipush 8, 2) := by decide +kernel
theorem dX9_digest_58 : decode cX9_digest 58 = .ok (.if_icmp .gt 24, 3) := by decide +kernel
theorem dX9_digest_61 : decode cX9_digest 61 = .ok (.lload_n 1, 1) := by decide +kernel
theorem dX9_digest_62 : decode cX9_digest 62 = .ok (.ldc2_w 270, 3) := by decide +kernel
theorem dX9_digest_65 : decode cX9_digest 65 = .ok (.lmul, 1) := by decide +kernel
theorem dX9_digest_66 : decode cX9_digest 66 = .ok (.aload_n 0, 1) := by decide +kernel
theorem dX9_digest_67 : decode cX9_digest 67 = .ok (.iload_n 3, 1) := by decide +kernel
theorem dX9_digest_68 : decode cX9_digest 68 = .ok (.iload 4, 2) := by decide +kernel
theorem dX9_digest_70 : decode cX9_digest 70 = .ok (.invokevirtual 249, 3) := by decide +kernel
theorem dX9_digest_73 : decode cX9_digest 73 = .ok (.i2l, 1) := by decide +kernel
theorem dX9_digest_74 : decode cX9_digest 74 = .ok (.ladd, 1) := by decide +kernel
theorem dX9_digest_75 : decode cX9_digest 75 = .ok (.lstore_n 1, 1) := by decide +kernel
theorem dX9_digest_76 : decode cX9_digest 76 = .ok (.iinc 4 1, 3) := by decide +kernel
theorem dX9_digest_79 : decode cX9_digest 79 = .ok (.goto (-25), 3) := by decide +kernel
theorem dX9_digest_82 : decode cX9_digest 82 = .ok (.lload_n 1, 1) := by decide +kernel
theorem dX9_digest_83 : decode cX9_digest 83 = .ok (.ldc2_w 270, 3) := by decide +kernel
theorem dX9_digest_86 : decode cX9_digest 86 = .ok (.lmul, 1) := by decide +kernel
theorem dX9_digest_87 : decode cX9_digest 87 = .ok (.ldc2_w 272, 3) := by decide +kernel
theorem dX9_digest_90 : decode cX9_digest 90 = .ok (.aload_n 0, 1) := by decide +kernel
theorem dX9_digest_91 : decode cX9_digest 91 = .ok (.getfield 10, 3) := by decide +kernel
theorem dX9_digest_94 : decode cX9_digest 94 = .ok (.iload_n 3, 1) := by decide +kernel
theorem dX9_digest_95 : decode cX9_digest 95 = .ok (.invokeinterface 57 2, 5) := by decide +kernel
theorem dX9_digest_100 : decode cX9_digest 100 = .ok (.checkcast 44, 3) := by decide +kernel
theorem dX9_digest_103 : decode cX9_digest 103 = .ok (.getfield 241, 3) := by decide +kernel
theorem dX9_digest_106 : decode cX9_digest 106 = .ok (.dmul, 1) := by decide +kernel
theorem dX9_digest_107 : decode cX9_digest 107 = .ok (.d2l, 1) := by decide +kernel
theorem dX9_digest_108 : decode cX9_digest 108 = .ok (.ladd, 1) := by decide +kernel
theorem dX9_digest_109 : decode cX9_digest 109 = .ok (.lstore_n 1, 1) := by decide +kernel
theorem dX9_digest_110 : decode cX9_digest 110 = .ok (.lload_n 1, 1) := by decide +kernel
theorem dX9_digest_111 : decode cX9_digest 111 = .ok (.ldc2_w 270, 3) := by decide +kernel
theorem dX9_digest_114 : decode cX9_digest 114 = .ok (.lmul, 1) := by decide +kernel
theorem dX9_digest_115 : decode cX9_digest 115 = .ok (.ldc2_w 272, 3) := by decide +kernel
theorem dX9_digest_118 : decode cX9_digest 118 = .ok (.aload_n 0, 1) := by decide +kernel
theorem dX9_digest_119 : decode cX9_digest 119 = .ok (.getfield 10, 3) := by decide +kernel
theorem dX9_digest_122 : decode cX9_digest 122 = .ok (.iload_n 3, 1) := by decide +kernel
theorem dX9_digest_123 : decode cX9_digest 123 = .ok (.invokeinterface 57 2, 5) := by decide +kernel
theorem dX9_digest_128 : decode cX9_digest 128 = .ok (.checkcast 44, 3) := by decide +kernel
theorem dX9_digest_131 : decode cX9_digest 131 = .ok (.getfield 245, 3) := by decide +kernel
theorem dX9_digest_134 : decode cX9_digest 134 = .ok (.dmul, 1) := by decide +kernel
theorem dX9_digest_135 : decode cX9_digest 135 = .ok (.d2l, 1) := by decide +kernel
theorem dX9_digest_136 : decode cX9_digest 136 = .ok (.ladd, 1) := by decide +kernel
theorem dX9_digest_137 : decode cX9_digest 137 = .ok (.lstore_n 1, 1) := by decide +kernel
theorem dX9_digest_138 : decode cX9_digest 138 = .ok (.lload_n 1, 1) := by decide +kernel
theorem dX9_digest_139 : decode cX9_digest 139 = .ok (.ldc2_w 270, 3) := by decide +kernel
theorem dX9_digest_142 : decode cX9_digest 142 = .ok (.lmul, 1) := by decide +kernel
theorem dX9_digest_143 : decode cX9_digest 143 = .ok (.aload_n 0, 1) := by decide +kernel
theorem dX9_digest_144 : decode cX9_digest 144 = .ok (.aload_n 0, 1) := by decide +kernel
theorem dX9_digest_145 : decode cX9_digest 145 = .ok (.getfield 10, 3) := by decide +kernel
theorem dX9_digest_148 : decode cX9_digest 148 = .ok (.iload_n 3, 1) := by decide +kernel
theorem dX9_digest_149 : decode cX9_digest 149 = .ok (.invokeinterface 57 2, 5) := by decide +kernel
theorem dX9_digest_154 : decode cX9_digest 154 = .ok (.checkcast 44, 3) := by decide +kernel
theorem dX9_digest_157 : decode cX9_digest 157 = .ok (.invokevirtual 181, 3) := by decide +kernel
theorem dX9_digest_160 : decode cX9_digest 160 = .ok (.i2l, 1) := by decide +kernel
theorem dX9_digest_161 : decode cX9_digest 161 = .ok (.ladd, 1) := by decide +kernel
theorem dX9_digest_162 : decode cX9_digest 162 = .ok (.lstore_n 1, 1) := by decide +kernel
theorem dX9_digest_163 : decode cX9_digest 163 = .ok (.lload_n 1, 1) := by decide +kernel
theorem dX9_digest_164 : decode cX9_digest 164 = .ok (.ldc2_w 270, 3) := by decide +kernel
theorem dX9_digest_167 : decode cX9_digest 167 = .ok (.lmul, 1) := by decide +kernel
theorem dX9_digest_168 : decode cX9_digest 168 = .ok (.aload_n 0, 1) := by decide +kernel
theorem dX9_digest_169 : decode cX9_digest 169 = .ok (.iload_n 3, 1) := by decide +kernel
theorem dX9_digest_170 : decode cX9_digest 170 = .ok (.invokevirtual 265, 3) := by decide +kernel
theorem dX9_digest_173 : decode cX9_digest 173 = .ok (.i2l, 1) := by decide +kernel
theorem dX9_digest_174 : decode cX9_digest 174 = .ok (.ladd, 1) := by decide +kernel
theorem dX9_digest_175 : decode cX9_digest 175 = .ok (.lstore_n 1, 1) := by decide +kernel
theorem dX9_digest_176 : decode cX9_digest 176 = .ok (.iinc 3 1, 3) := by decide +kernel
theorem dX9_digest_179 : decode cX9_digest 179 = .ok (.goto (-141), 3) := by decide +kernel
theorem dX9_digest_182 : decode cX9_digest 182 = .ok (.iconst 0, 1) := by decide +kernel
theorem dX9_digest_183 : decode cX9_digest 183 = .ok (.istore_n 3, 1) := by decide +kernel
theorem dX9_digest_184 : decode cX9_digest 184 = .ok (.iload_n 3, 1) := by decide +kernel
theorem dX9_digest_185 : decode cX9_digest 185 = .ok (.aload_n 0, 1) := by decide +kernel
theorem dX9_digest_186 : decode cX9_digest 186 = .ok (.getfield 16, 3) := by decide +kernel
theorem dX9_digest_189 : decode cX9_digest 189 = .ok (.invokeinterface 33 1, 5) := by decide +kernel
theorem dX9_digest_194 : decode cX9_digest 194 = .ok (.if_icmp .ge 67, 3) := by decide +kernel
theorem dX9_digest_197 : decode cX9_digest 197 = .ok (.iconst 0, 1) := by decide +kernel
theorem dX9_digest_198 : decode cX9_digest 198 = .ok (.istore 4, 2) := by decide +kernel
theorem dX9_digest_200 : decode cX9_digest 200 = .ok (.iload 4, 2) := by decide +kernel
theorem dX9_digest_202 : decode cX9_digest 202 = .ok (.iconst 4, 1) := by decide +kernel
theorem dX9_digest_203 : decode cX9_digest 203 = .ok (.if_icmp .gt 24, 3) := by decide +kernel
theorem dX9_digest_206 : decode cX9_digest 206 = .ok (.lload_n 1, 1) := by decide +kernel
theorem dX9_digest_207 : decode cX9_digest 207 = .ok (.ldc2_w 270, 3) := by decide +kernel
theorem dX9_digest_210 : decode cX9_digest 210 = .ok (.lmul, 1) := by decide +kernel
theorem dX9_digest_211 : decode cX9_digest 211 = .ok (.aload_n 0, 1) := by decide +kernel
theorem dX9_digest_212 : decode cX9_digest 212 = .ok (.iload_n 3, 1) := by decide +kernel
theorem dX9_digest_213 : decode cX9_digest 213 = .ok (.iload 4, 2) := by decide +kernel
theorem dX9_digest_215 : decode cX9_digest 215 = .ok (.invokevirtual 252, 3) := by decide +kernel
theorem dX9_digest_218 : decode cX9_digest 218 = .ok (.i2l, 1) := by decide +kernel
theorem dX9_digest_219 : decode cX9_digest 219 = .ok (.ladd, 1) := by decide +kernel
theorem dX9_digest_220 : decode cX9_digest 220 = .ok (.lstore_n 1, 1) := by decide +kernel
theorem dX9_digest_221 : decode cX9_digest 221 = .ok (.iinc 4 1, 3) := by decide +kernel
theorem dX9_digest_224 : decode cX9_digest 224 = .ok (.goto (-24), 3) := by decide +kernel
theorem dX9_digest_227 : decode cX9_digest 227 = .ok (.lload_n 1, 1) := by decide +kernel
theorem dX9_digest_228 : decode cX9_digest 228 = .ok (.ldc2_w 270, 3) := by decide +kernel
theorem dX9_digest_231 : decode cX9_digest 231 = .ok (.lmul, 1) := by decide +kernel
theorem dX9_digest_232 : decode cX9_digest 232 = .ok (.ldc_w 274, 3) := by decide +kernel
theorem dX9_digest_235 : decode cX9_digest 235 = .ok (.aload_n 0, 1) := by decide +kernel
theorem dX9_digest_236 : decode cX9_digest 236 = .ok (.getfield 16, 3) := by decide +kernel
theorem dX9_digest_239 : decode cX9_digest 239 = .ok (.iload_n 3, 1) := by decide +kernel
theorem dX9_digest_240 : decode cX9_digest 240 = .ok (.invokeinterface 57 2, 5) := by decide +kernel
theorem dX9_digest_245 : decode cX9_digest 245 = .ok (.checkcast 50, 3) := by decide +kernel
theorem dX9_digest_248 : decode cX9_digest 248 = .ok (.getfield 193, 3) := by decide +kernel
theorem dX9_digest_251 : decode cX9_digest 251 = .ok (.fmul, 1) := by decide +kernel
theorem dX9_digest_252 : decode cX9_digest 252 = .ok (.f2l, 1) := by decide +kernel
theorem dX9_digest_253 : decode cX9_digest 253 = .ok (.ladd, 1) := by decide +kernel
theorem dX9_digest_254 : decode cX9_digest 254 = .ok (.lstore_n 1, 1) := by decide +kernel
theorem dX9_digest_255 : decode cX9_digest 255 = .ok (.iinc 3 1, 3) := by decide +kernel
theorem dX9_digest_258 : decode cX9_digest 258 = .ok (.goto (-74), 3) := by decide +kernel
theorem dX9_digest_261 : decode cX9_digest 261 = .ok (.iconst 0, 1) := by decide +kernel
theorem dX9_digest_262 : decode cX9_digest 262 = .ok (.istore_n 3, 1) := by decide +kernel
theorem dX9_digest_263 : decode cX9_digest 263 = .ok (.iload_n 3, 1) := by decide +kernel
theorem dX9_digest_264 : decode cX9_digest 264 = .ok (.bipush 10, 2) := by decide +kernel
theorem dX9_digest_266 : decode cX9_digest 266 = .ok (.if_icmp .ge 35, 3) := by decide +kernel
theorem dX9_digest_269 : decode cX9_digest 269 = .ok (.lload_n 1, 1) := by decide +kernel
theorem dX9_digest_270 : decode cX9_digest 270 = .ok (.ldc2_w 270, 3) := by decide +kernel
theorem dX9_digest_273 : decode cX9_digest 273 = .ok (.lmul, 1) := by decide +kernel
theorem dX9_digest_274 : decode cX9_digest 274 = .ok (.aload_n 0, 1) := by decide +kernel
theorem dX9_digest_275 : decode cX9_digest 275 = .ok (.getfield 19, 3) := by decide +kernel
theorem dX9_digest_278 : decode cX9_digest 278 = .ok (.iload_n 3, 1) := by decide +kernel
theorem dX9_digest_279 : decode cX9_digest 279 = .ok (.iaload, 1) := by decide +kernel
theorem dX9_digest_280 : decode cX9_digest 280 = .ok (.i2l, 1) := by decide +kernel
theorem dX9_digest_281 : decode cX9_digest 281 = .ok (.ladd, 1) := by decide +kernel
theorem dX9_digest_282 : decode cX9_digest 282 = .ok (.ldc2_w 270, 3) := by decide +kernel
theorem dX9_digest_285 : decode cX9_digest 285 = .ok (.lmul, 1) := by decide +kernel
theorem dX9_digest_286 : decode cX9_digest 286 = .ok (.aload_n 0, 1) := by decide +kernel
theorem dX9_digest_287 : decode cX9_digest 287 = .ok (.getfield 23, 3) := by decide +kernel
theorem dX9_digest_290 : decode cX9_digest 290 = .ok (.iload_n 3, 1) := by decide +kernel
theorem dX9_digest_291 : decode cX9_digest 291 = .ok (.iaload, 1) := by decide +kernel
theorem dX9_digest_292 : decode cX9_digest 292 = .ok (.i2l, 1) := by decide +kernel
theorem dX9_digest_293 : decode cX9_digest 293 = .ok (.ladd, 1) := by decide +kernel
theorem dX9_digest_294 : decode cX9_digest 294 = .ok (.lstore_n 1, 1) := by decide +kernel
theorem dX9_digest_295 : decode cX9_digest 295 = .ok (.iinc 3 1, 3) := by decide +kernel
theorem dX9_digest_298 : decode cX9_digest 298 = .ok (.goto (-35), 3) := by decide +kernel
theorem dX9_digest_301 : decode cX9_digest 301 = .ok (.lload_n 1, 1) := by decide +kernel
theorem dX9_digest_302 : decode cX9_digest 302 = .ok (.ldc2_w 270, 3) := by decide +kernel
theorem dX9_digest_305 : decode cX9_digest 305 = .ok (.lmul, 1) := by decide +kernel
theorem dX9_digest_306 : decode cX9_digest 306 = .ok (.aload_n 0, 1) := by decide +kernel
theorem dX9_digest_307 : decode cX9_digest 307 = .ok (.iconst 3, 1) := by decide +kernel
theorem dX9_digest_308 : decode cX9_digest 308 = .ok (.invokevirtual 262, 3) := by decide +kernel
theorem dX9_digest_311 : decode cX9_digest 311 = .ok (.i2l, 1) := by decide +kernel
theorem dX9_digest_312 : decode cX9_digest 312 = .ok (.ladd, 1) := by decide +kernel
theorem dX9_digest_313 : decode cX9_digest 313 = .ok (.lstore_n 1, 1) := by decide +kernel
theorem dX9_digest_314 : decode cX9_digest 314 = .ok (.lload_n 1, 1) := by decide +kernel
theorem dX9_digest_315 : decode cX9_digest 315 = .ok (.ldc2_w 270, 3) := by decide +kernel
theorem dX9_digest_318 : decode cX9_digest 318 = .ok (.lmul, 1) := by decide +kernel
theorem dX9_digest_319 : decode cX9_digest 319 = .ok (.aload_n 0, 1) := by decide +kernel
theorem dX9_digest_320 : decode cX9_digest 320 = .ok (.iconst 0, 1) := by decide +kernel
theorem dX9_digest_321 : decode cX9_digest 321 = .ok (.iconst 3, 1) := by decide +kernel
theorem dX9_digest_322 : decode cX9_digest 322 = .ok (.invokevirtual 185, 3) := by decide +kernel
theorem dX9_digest_325 : decode cX9_digest 325 = .ok (.invokestatic 203, 3) := by decide +kernel
theorem dX9_digest_328 : decode cX9_digest 328 = .ok (.i2l, 1) := by decide +kernel
theorem dX9_digest_329 : decode cX9_digest 329 = .ok (.ladd, 1) := by decide +kernel
theorem dX9_digest_330 : decode cX9_digest 330 = .ok (.lreturn, 1) := by decide +kernel
theorem dJ9_abs_0f7a4_0 : decode cJ9_abs_0f7a4 0 = .ok (.iload_n 0, 1) := by decide +kernel
theorem dJ9_abs_0f7a4_1 : decode cJ9_abs_0f7a4 1 = .ok (.ifCond .ge 8, 3) := by decide +kernel
theorem dJ9_abs_0f7a4_4 : decode cJ9_abs_0f7a4 4 = .ok (.iload_n 0, 1) := by decide +kernel
theorem dJ9_abs_0f7a4_5 : decode cJ9_abs_0f7a4 5 = .ok (.ineg, 1) := by decide +kernel
theorem dJ9_abs_0f7a4_6 : decode cJ9_abs_0f7a4 6 = .ok (.goto 4, 3) := by decide +kernel
theorem dJ9_abs_0f7a4_9 : decode cJ9_abs_0f7a4 9 = .ok (.iload_n 0, 1) := by decide +kernel
theorem dJ9_abs_0f7a4_10 : decode cJ9_abs_0f7a4 10 = .ok (.ireturn, 1) := by decide +kernel
theorem dJ9_abs_294c1_0 : decode cJ9_abs_294c1 0 = .ok (.dload_n 0, 1) := by decide +kernel
theorem dJ9_abs_294c1_1 : decode cJ9_abs_294c1 1 = .ok (.invokestatic 79, 3) := by decide +kernel
theorem dJ9_abs_294c1_4 : decode cJ9_abs_294c1 4 = .ok (.ldc2_w 135, 3) := by decide +kernel
theorem dJ9_abs_294c1_7 : decode cJ9_abs_294c1 7 = .ok (.land, 1) := by decide +kernel
theorem dJ9_abs_294c1_8 : decode cJ9_abs_294c1 8 = .ok (.invokestatic 166, 3) := by decide +kernel
theorem dJ9_abs_294c1_11 : decode cJ9_abs_294c1 11 = .ok (.dreturn, 1) := by decide +kernel
theorem dJ9_max_7cf53_0 : decode cJ9_max_7cf53 0 = .ok (.iload_n 0, 1) := by decide +kernel
theorem dJ9_max_7cf53_1 : decode cJ9_max_7cf53 1 = .ok (.iload_n 1, 1) := by decide +kernel
theorem dJ9_max_7cf53_2 : decode cJ9_max_7cf53 2 = .ok (.if_icmp .lt 7, 3) := by decide +kernel
theorem dJ9_max_7cf53_5 : decode cJ9_max_7cf53 5 = .ok (.iload_n 0, 1) := by decide +kernel
theorem dJ9_max_7cf53_6 : decode cJ9_max_7cf53 6 = .ok (.goto 4, 3) := by decide +kernel
theorem dJ9_max_7cf53_9 : decode cJ9_max_7cf53 9 = .ok (.iload_n 1, 1) := by decide +kernel
theorem dJ9_max_7cf53_10 : decode cJ9_max_7cf53 10 = .ok (.ireturn, 1) := by decide +kernel
theorem dJ9_max_eb370_0 : decode cJ9_max_eb370 0 = .ok (.dload_n 0, 1) := by decide +kernel
theorem dJ9_max_eb370_1 : decode cJ9_max_eb370 1 = .ok (.dload_n 0, 1) := by decide +kernel
theorem dJ9_max_eb370_2 : decode cJ9_max_eb370 2 = .ok (.dcmp .l, 1) := by decide +kernel
theorem dJ9_max_eb370_3 : decode cJ9_max_eb370 3 = .ok (.ifCond .eq 5, 3) := by decide +kernel
theorem dJ9_max_eb370_6 : decode cJ9_max_eb370 6 = .ok (.dload_n 0, 1) := by decide +kernel
theorem dJ9_max_eb370_7 : decode cJ9_max_eb370 7 = .ok (.dreturn, 1) := by decide +kernel
theorem dJ9_max_eb370_8 : decode cJ9_max_eb370 8 = .ok (.dload_n 0, 1) := by decide +kernel
theorem dJ9_max_eb370_9 : decode cJ9_max_eb370 9 = .ok (.dconst 0, 1) := by decide +kernel
theorem dJ9_max_eb370_10 : decode cJ9_max_eb370 10 = .ok (.dcmp .l, 1) := by decide +kernel
theorem dJ9_max_eb370_11 : decode cJ9_max_eb370 11 = .ok (.ifCond .ne 22, 3) := by decide +kernel
theorem dJ9_max_eb370_14 : decode cJ9_max_eb370 14 = .ok (.dload_n 2, 1) := by decide +kernel
theorem dJ9_max_eb370_15 : decode cJ9_max_eb370 15 = .ok (.dconst 0, 1) := by decide +kernel
theorem dJ9_max_eb370_16 : decode cJ9_max_eb370 16 = .ok (.dcmp .l, 1) := by decide +kernel
theorem dJ9_max_eb370_17 : decode cJ9_max_eb370 17 = .ok (.ifCond .ne 16, 3) := by decide +kernel
theorem dJ9_max_eb370_20 : decode cJ9_max_eb370 20 = .ok (.dload_n 0, 1) := by decide +kernel
theorem dJ9_max_eb370_21 : decode cJ9_max_eb370 21 = .ok (.invokestatic 79, 3) := by decide +kernel
theorem dJ9_max_eb370_24 : decode cJ9_max_eb370 24 = .ok (.getstatic 174, 3) := by decide +kernel
theorem dJ9_max_eb370_27 : decode cJ9_max_eb370 27 = .ok (.lcmp, 1) := by decide +kernel
theorem dJ9_max_eb370_28 : decode cJ9_max_eb370 28 = .ok (.ifCond .ne 5, 3) := by decide +kernel
theorem dJ9_max_eb370_31 : decode cJ9_max_eb370 31 = .ok (.dload_n 2, 1) := by decide +kernel
theorem dJ9_max_eb370_32 : decode cJ9_max_eb370 32 = .ok (.dreturn, 1) := by decide +kernel
theorem dJ9_max_eb370_33 : decode cJ9_max_eb370 33 = .ok (.dload_n 0, 1) := by decide +kernel
theorem dJ9_max_eb370_34 : decode cJ9_max_eb370 34 = .ok (.dload_n 2, 1) := by decide +kernel
theorem dJ9_max_eb370_35 : decode cJ9_max_eb370 35 = .ok (.dcmp .l, 1) := by decide +kernel
theorem dJ9_max_eb370_36 : decode cJ9_max_eb370 36 = .ok (.ifCond .lt 7, 3) := by decide +kernel
theorem dJ9_max_eb370_39 : decode cJ9_max_eb370 39 = .ok (.dload_n 0, 1) := by decide +kernel
theorem dJ9_max_eb370_40 : decode cJ9_max_eb370 40 = .ok (.goto 4, 3) := by decide +kernel
theorem dJ9_max_eb370_43 : decode cJ9_max_eb370 43 = .ok (.dload_n 2, 1) := by decide +kernel
theorem dJ9_max_eb370_44 : decode cJ9_max_eb370 44 = .ok (.dreturn, 1) := by decide +kernel
theorem dJ9_min_7cf53_0 : decode cJ9_min_7cf53 0 = .ok (.iload_n 0, 1) := by decide +kernel
theorem dJ9_min_7cf53_1 : decode cJ9_min_7cf53 1 = .ok (.iload_n 1, 1) := by decide +kernel
theorem dJ9_min_7cf53_2 : decode cJ9_min_7cf53 2 = .ok (.if_icmp .gt 7, 3) := by decide +kernel
theorem dJ9_min_7cf53_5 : decode cJ9_min_7cf53 5 = .ok (.iload_n 0, 1) := by decide +kernel
theorem dJ9_min_7cf53_6 : decode cJ9_min_7cf53 6 = .ok (.goto 4, 3) := by decide +kernel
theorem dJ9_min_7cf53_9 : decode cJ9_min_7cf53 9 = .ok (.iload_n 1, 1) := by decide +kernel
theorem dJ9_min_7cf53_10 : decode cJ9_min_7cf53 10 = .ok (.ireturn, 1) := by decide +kernel
theorem dJ9_min_eb370_0 : decode cJ9_min_eb370 0 = .ok (.dload_n 0, 1) := by decide +kernel
theorem dJ9_min_eb370_1 : decode cJ9_min_eb370 1 = .ok (.dload_n 0, 1) := by decide +kernel
theorem dJ9_min_eb370_2 : decode cJ9_min_eb370 2 = .ok (.dcmp .l, 1) := by decide +kernel
theorem dJ9_min_eb370_3 : decode cJ9_min_eb370 3 = .ok (.ifCond .eq 5, 3) := by decide +kernel
theorem dJ9_min_eb370_6 : decode cJ9_min_eb370 6 = .ok (.dload_n 0, 1) := by decide +kernel
theorem dJ9_min_eb370_7 : decode cJ9_min_eb370 7 = .ok (.dreturn, 1) := by decide +kernel
theorem dJ9_min_eb370_8 : decode cJ9_min_eb370 8 = .ok (.dload_n 0, 1) := by decide +kernel
theorem dJ9_min_eb370_9 : decode cJ9_min_eb370 9 = .ok (.dconst 0, 1) := by decide +kernel
theorem dJ9_min_eb370_10 : decode cJ9_min_eb370 10 = .ok (.dcmp .l, 1) := by decide +kernel
theorem dJ9_min_eb370_11 : decode cJ9_min_eb370 11 = .ok (.ifCond .ne 22, 3) := by decide +kernel
theorem dJ9_min_eb370_14 : decode cJ9_min_eb370 14 = .ok (.dload_n 2, 1) := by decide +kernel
theorem dJ9_min_eb370_15 : decode cJ9_min_eb370 15 = .ok (.dconst 0, 1) := by decide +kernel
theorem dJ9_min_eb370_16 : decode cJ9_min_eb370 16 = .ok (.dcmp .l, 1) := by decide +kernel
theorem dJ9_min_eb370_17 : decode cJ9_min_eb370 17 = .ok (.ifCond .ne 16, 3) := by decide +kernel
theorem dJ9_min_eb370_20 : decode cJ9_min_eb370 20 = .ok (.dload_n 2, 1) := by decide +kernel
theorem dJ9_min_eb370_21 : decode cJ9_min_eb370 21 = .ok (.invokestatic 79, 3) := by decide +kernel
theorem dJ9_min_eb370_24 : decode cJ9_min_eb370 24 = .ok (.getstatic 174, 3) := by decide +kernel
theorem dJ9_min_eb370_27 : decode cJ9_min_eb370 27 = .ok (.lcmp, 1) := by decide +kernel
theorem dJ9_min_eb370_28 : decode cJ9_min_eb370 28 = .ok (.ifCond .ne 5, 3) := by decide +kernel
theorem dJ9_min_eb370_31 : decode cJ9_min_eb370 31 = .ok (.dload_n 2, 1) := by decide +kernel
theorem dJ9_min_eb370_32 : decode cJ9_min_eb370 32 = .ok (.dreturn, 1) := by decide +kernel
theorem dJ9_min_eb370_33 : decode cJ9_min_eb370 33 = .ok (.dload_n 0, 1) := by decide +kernel
theorem dJ9_min_eb370_34 : decode cJ9_min_eb370 34 = .ok (.dload_n 2, 1) := by decide +kernel
theorem dJ9_min_eb370_35 : decode cJ9_min_eb370 35 = .ok (.dcmp .g, 1) := by decide +kernel
theorem dJ9_min_eb370_36 : decode cJ9_min_eb370 36 = .ok (.ifCond .gt 7, 3) := by decide +kernel
theorem dJ9_min_eb370_39 : decode cJ9_min_eb370 39 = .ok (.dload_n 0, 1) := by decide +kernel
theorem dJ9_min_eb370_40 : decode cJ9_min_eb370 40 = .ok (.goto 4, 3) := by decide +kernel
theorem dJ9_min_eb370_43 : decode cJ9_min_eb370 43 = .ok (.dload_n 2, 1) := by decide +kernel
theorem dJ9_min_eb370_44 : decode cJ9_min_eb370 44 = .ok (.dreturn, 1) := by decide +kernel
theorem dJxa1e45_init_da8c8_0 : decode cJxa1e45_init_da8c8 0 = .ok (.aload_n 0, 1) := by decide +kernel
theorem dJxa1e45_init_da8c8_1 : decode cJxa1e45_init_da8c8 1 = .ok (.invokespecial 1, 3) := by decide +kernel
theorem dJxa1e45_init_da8c8_4 : decode cJxa1e45_init_da8c8 4 = .ok (.return_, 1) := by decide +kernel
theorem dJxc12de_init_da8c8_0 : decode cJxc12de_init_da8c8 0 = .ok (.aload_n 0, 1) := by decide +kernel
theorem dJxc12de_init_da8c8_1 : decode cJxc12de_init_da8c8 1 = .ok (.invokespecial 1, 3) := by decide +kernel
theorem dJxc12de_init_da8c8_4 : decode cJxc12de_init_da8c8 4 = .ok (.aload_n 0, 1) := by decide +kernel
theorem dJxc12de_init_da8c8_5 : decode cJxc12de_init_da8c8 5 = .ok (.iconst 0, 1) := by decide +kernel
theorem dJxc12de_init_da8c8_6 : decode cJxc12de_init_da8c8 6 = .ok (.putfield 7, 3) := by decide +kernel
theorem dJxc12de_init_da8c8_9 : decode cJxc12de_init_da8c8 9 = .ok (.return_, 1) := by decide +kernel
theorem dJx4a65c_init_da8c8_0 : decode cJx4a65c_init_da8c8 0 = .ok (.aload_n 0, 1) := by decide +kernel
theorem dJx4a65c_init_da8c8_1 : decode cJx4a65c_init_da8c8 1 = .ok (.invokespecial 1, 3) := by decide +kernel
theorem dJx4a65c_init_da8c8_4 : decode cJx4a65c_init_da8c8 4 = .ok (.aload_n 0, 1) := by decide +kernel
theorem dJx4a65c_init_da8c8_5 : decode cJx4a65c_init_da8c8 5 = .ok (.getstatic 39, 3) := by decide +kernel
theorem dJx4a65c_init_da8c8_8 : decode cJx4a65c_init_da8c8 8 = .ok (.putfield 9, 3) := by decide +kernel
theorem dJx4a65c_init_da8c8_11 : decode cJx4a65c_init_da8c8 11 = .ok (.return_, 1) := by decide +kernel
theorem dJx4a65c_grow_92f84_0 : decode cJx4a65c_grow_92f84 0 = .ok (.aload_n 0, 1) := by decide +kernel
theorem dJx4a65c_grow_92f84_1 : decode cJx4a65c_grow_92f84 1 = .ok (.getfield 9, 3) := by decide +kernel
theorem dJx4a65c_grow_92f84_4 : decode cJx4a65c_grow_92f84 4 = .ok (.arraylength, 1) := by decide +kernel
theorem dJx4a65c_grow_92f84_5 : decode cJx4a65c_grow_92f84 5 = .ok (.istore_n 2, 1) := by decide +kernel
theorem dJx4a65c_grow_92f84_6 : decode cJx4a65c_grow_92f84 6 = .ok (.iload_n 2, 1) := by decide +kernel
theorem dJx4a65c_grow_92f84_7 : decode cJx4a65c_grow_92f84 7 = .ok (.ifCond .gt 13, 3) := by decide +kernel
theorem dJx4a65c_grow_92f84_10 : decode cJx4a65c_grow_92f84 10 = .ok (.aload_n 0, 1) := by decide +kernel
theorem dJx4a65c_grow_92f84_11 : decode cJx4a65c_grow_92f84 11 = .ok (.getfield 9, 3) := by decide +kernel
theorem dJx4a65c_grow_92f84_14 : decode cJx4a65c_grow_92f84 14 = .ok (.getstatic 39, 3) := by decide +kernel
theorem dJx4a65c_grow_92f84_17 : decode cJx4a65c_grow_92f84 17 = .ok (.if_acmp .eq 28, 3) := by decide +kernel
theorem dJx4a65c_grow_92f84_20 : decode cJx4a65c_grow_92f84 20 = .ok (.iload_n 2, 1) := by decide +kernel
theorem dJx4a65c_grow_92f84_21 : decode cJx4a65c_grow_92f84 21 = .ok (.iload_n 1, 1) := by decide +kernel
theorem dJx4a65c_grow_92f84_22 : decode cJx4a65c_grow_92f84 22 = .ok (.iload_n 2, 1) := by decide +kernel
theorem dJx4a65c_grow_92f84_23 : decode cJx4a65c_grow_92f84 23 = .ok (.isub, 1) := by decide +kernel
theorem dJx4a65c_grow_92f84_24 : decode cJx4a65c_grow_92f84 24 = .ok (.iload_n 2, 1) := by decide +kernel
theorem dJx4a65c_grow_92f84_25 : decode cJx4a65c_grow_92f84 25 = .ok (.iconst 1, 1) := by decide +kernel
theorem dJx4a65c_grow_92f84_26 : decode cJx4a65c_grow_92f84 26 = .ok (.ishr, 1) := by decide +kernel
theorem dJx4a65c_grow_92f84_27 : decode cJx4a65c_grow_92f84 27 = .ok (.invokestatic 73, 3) := by decide +kernel
theorem dJx4a65c_grow_92f84_30 : decode cJx4a65c_grow_92f84 30 = .ok (.istore_n 3, 1) := by decide +kernel
theorem dJx4a65c_grow_92f84_31 : decode cJx4a65c_grow_92f84 31 = .ok (.aload_n 0, 1) := by decide +kernel
theorem dJx4a65c_grow_92f84_32 : decode cJx4a65c_grow_92f84 32 = .ok (.aload_n 0, 1) := by decide +kernel
theorem dJx4a65c_grow_92f84_33 : decode cJx4a65c_grow_92f84 33 = .ok (.getfield 9, 3) := by decide +kernel
theorem dJx4a65c_grow_92f84_36 : decode cJx4a65c_grow_92f84 36 = .ok (.iload_n 3, 1) := by decide +kernel
theorem dJx4a65c_grow_92f84_37 : decode cJx4a65c_grow_92f84 37 = .ok (.invokestatic 66, 3) := by decide +kernel
theorem dJx4a65c_grow_92f84_40 : decode cJx4a65c_grow_92f84 40 = .ok (.dup_x1, 1) := by decide +kernel
theorem dJx4a65c_grow_92f84_41 : decode cJx4a65c_grow_92f84 41 = .ok (.putfield 9, 3) := by decide +kernel
theorem dJx4a65c_grow_92f84_44 : decode cJx4a65c_grow_92f84 44 = .ok (.areturn, 1) := by decide +kernel
theorem dJx4a65c_grow_92f84_45 : decode cJx4a65c_grow_92f84 45 = .ok (.aload_n 0, 1) := by decide +kernel
theorem dJx4a65c_grow_92f84_46 : decode cJx4a65c_grow_92f84 46 = .ok (.bipush 10, 2) := by decide +kernel
theorem dJx4a65c_grow_92f84_48 : decode cJx4a65c_grow_92f84 48 = .ok (.iload_n 1, 1) := by decide +kernel
theorem dJx4a65c_grow_92f84_49 : decode cJx4a65c_grow_92f84 49 = .ok (.invokestatic 79, 3) := by decide +kernel
theorem dJx4a65c_grow_92f84_52 : decode cJx4a65c_grow_92f84 52 = .ok (.anewarray 7, 3) := by decide +kernel
theorem dJx4a65c_grow_92f84_55 : decode cJx4a65c_grow_92f84 55 = .ok (.dup_x1, 1) := by decide +kernel
theorem dJx4a65c_grow_92f84_56 : decode cJx4a65c_grow_92f84 56 = .ok (.putfield 9, 3) := by decide +kernel
theorem dJx4a65c_grow_92f84_59 : decode cJx4a65c_grow_92f84 59 = .ok (.areturn, 1) := by decide +kernel
theorem dJx4a65c_grow_d5877_0 : decode cJx4a65c_grow_d5877 0 = .ok (.aload_n 0, 1) := by decide +kernel
theorem dJx4a65c_grow_d5877_1 : decode cJx4a65c_grow_d5877 1 = .ok (.aload_n 0, 1) := by decide +kernel
theorem dJx4a65c_grow_d5877_2 : decode cJx4a65c_grow_d5877 2 = .ok (.getfield 48, 3) := by decide +kernel
theorem dJx4a65c_grow_d5877_5 : decode cJx4a65c_grow_d5877 5 = .ok (.iconst 1, 1) := by decide +kernel
theorem dJx4a65c_grow_d5877_6 : decode cJx4a65c_grow_d5877 6 = .ok (.iadd, 1) := by decide +kernel
theorem dJx4a65c_grow_d5877_7 : decode cJx4a65c_grow_d5877 7 = .ok (.invokevirtual 69, 3) := by decide +kernel
theorem dJx4a65c_grow_d5877_10 : decode cJx4a65c_grow_d5877 10 = .ok (.areturn, 1) := by decide +kernel
theorem dJx4a65c_size_8abf5_0 : decode cJx4a65c_size_8abf5 0 = .ok (.aload_n 0, 1) := by decide +kernel
theorem dJx4a65c_size_8abf5_1 : decode cJx4a65c_size_8abf5 1 = .ok (.getfield 48, 3) := by decide +kernel
theorem dJx4a65c_size_8abf5_4 : decode cJx4a65c_size_8abf5 4 = .ok (.ireturn, 1) := by decide +kernel
theorem dJx4a65c_elementData_915e3_0 : decode cJx4a65c_elementData_915e3 0 = .ok (.aload_n 0, 1) := by decide +kernel
theorem dJx4a65c_elementData_915e3_1 : decode cJx4a65c_elementData_915e3 1 = .ok (.getfield 9, 3) := by decide +kernel
theorem dJx4a65c_elementData_915e3_4 : decode cJx4a65c_elementData_915e3 4 = .ok (.iload_n 1, 1) := by decide +kernel
theorem dJx4a65c_elementData_915e3_5 : decode cJx4a65c_elementData_915e3 5 = .ok (.aaload, 1) := by decide +kernel
theorem dJx4a65c_elementData_915e3_6 : decode cJx4a65c_elementData_915e3 6 = .ok (.areturn, 1) := by decide +kernel
theorem dJx4a65c_get_915e3_0 : decode cJx4a65c_get_915e3 0 = .ok (.iload_n 1, 1) := by decide +kernel
theorem dJx4a65c_get_915e3_1 : decode cJx4a65c_get_915e3 1 = .ok (.aload_n 0, 1) := by decide +kernel
theorem dJx4a65c_get_915e3_2 : decode cJx4a65c_get_915e3 2 = .ok (.getfield 48, 3) := by decide +kernel
theorem dJx4a65c_get_915e3_5 : decode cJx4a65c_get_915e3 5 = .ok (.invokestatic 118, 3) := by decide +kernel
theorem dJx4a65c_get_915e3_8 : decode cJx4a65c_get_915e3 8 = .ok (.pop, 1) := by decide +kernel
theorem dJx4a65c_get_915e3_9 : decode cJx4a65c_get_915e3 9 = .ok (.aload_n 0, 1) := by decide +kernel
theorem dJx4a65c_get_915e3_10 : decode cJx4a65c_get_915e3 10 = .ok (.iload_n 1, 1) := by decide +kernel
theorem dJx4a65c_get_915e3_11 : decode cJx4a65c_get_915e3 11 = .ok (.invokevirtual 123, 3) := by decide +kernel
theorem dJx4a65c_get_915e3_14 : decode cJx4a65c_get_915e3 14 = .ok (.areturn, 1) := by decide +kernel
theorem dJx4a65c_add_72be8_0 : decode cJx4a65c_add_72be8 0 = .ok (.iload_n 3, 1) := by decide +kernel
theorem dJx4a65c_add_72be8_1 : decode cJx4a65c_add_72be8 1 = .ok (.aload_n 2, 1) := by decide +kernel
theorem dJx4a65c_add_72be8_2 : decode cJx4a65c_add_72be8 2 = .ok (.arraylength, 1) := by decide +kernel
theorem dJx4a65c_add_72be8_3 : decode cJx4a65c_add_72be8 3 = .ok (.if_icmp .ne 8, 3) := by decide +kernel
theorem dJx4a65c_add_72be8_6 : decode cJx4a65c_add_72be8 6 = .ok (.aload_n 0, 1) := by decide +kernel
theorem dJx4a65c_add_72be8_7 : decode cJx4a65c_add_72be8 7 = .ok (.invokevirtual 129, 3) := by decide +kernel
theorem dJx4a65c_add_72be8_10 : decode cJx4a65c_add_72be8 10 = .ok (.astore_n 2, 1) := by decide +kernel
theorem dJx4a65c_add_72be8_11 : decode cJx4a65c_add_72be8 11 = .ok (.aload_n 2, 1) := by decide +kernel
theorem dJx4a65c_add_72be8_12 : decode cJx4a65c_add_72be8 12 = .ok (.iload_n 3, 1) := by decide +kernel
theorem dJx4a65c_add_72be8_13 : decode cJx4a65c_add_72be8 13 = .ok (.aload_n 1, 1) := by decide +kernel
theorem dJx4a65c_add_72be8_14 : decode cJx4a65c_add_72be8 14 = .ok (.aastore, 1) := by decide +kernel
theorem dJx4a65c_add_72be8_15 : decode cJx4a65c_add_72be8 15 = .ok (.aload_n 0, 1) := by decide +kernel
theorem dJx4a65c_add_72be8_16 : decode cJx4a65c_add_72be8 16 = .ok (.iload_n 3, 1) := by decide +kernel
theorem dJx4a65c_add_72be8_17 : decode cJx4a65c_add_72be8 17 = .ok (.iconst 1, 1) := by decide +kernel
theorem dJx4a65c_add_72be8_18 : decode cJx4a65c_add_72be8 18 = .ok (.iadd, 1) := by decide +kernel
theorem dJx4a65c_add_72be8_19 : decode cJx4a65c_add_72be8 19 = .ok (.putfield 48, 3) := by decide +kernel
theorem dJx4a65c_add_72be8_22 : decode cJx4a65c_add_72be8 22 = .ok (.return_, 1) := by decide +kernel
theorem dJx4a65c_add_9ea2d_0 : decode cJx4a65c_add_9ea2d 0 = .ok (.aload_n 0, 1) := by decide +kernel
theorem dJx4a65c_add_9ea2d_1 : decode cJx4a65c_add_9ea2d 1 = .ok (.dup, 1) := by decide +kernel
theorem dJx4a65c_add_9ea2d_2 : decode cJx4a65c_add_9ea2d 2 = .ok (.getfield 63, 3) := by decide +kernel
theorem dJx4a65c_add_9ea2d_5 : decode cJx4a65c_add_9ea2d 5 = .ok (.iconst 1, 1) := by decide +kernel
theorem dJx4a65c_add_9ea2d_6 : decode cJx4a65c_add_9ea2d 6 = .ok (.iadd, 1) := by decide +kernel
theorem dJx4a65c_add_9ea2d_7 : decode cJx4a65c_add_9ea2d 7 = .ok (.putfield 63, 3) := by decide +kernel
theorem dJx4a65c_add_9ea2d_10 : decode cJx4a65c_add_9ea2d 10 = .ok (.aload_n 0, 1) := by decide +kernel
theorem dJx4a65c_add_9ea2d_11 : decode cJx4a65c_add_9ea2d 11 = .ok (.aload_n 1, 1) := by decide +kernel
theorem dJx4a65c_add_9ea2d_12 : decode cJx4a65c_add_9ea2d 12 = .ok (.aload_n 0, 1) := by decide +kernel
theorem dJx4a65c_add_9ea2d_13 : decode cJx4a65c_add_9ea2d 13 = .ok (.getfield 9, 3) := by decide +kernel
theorem dJx4a65c_add_9ea2d_16 : decode cJx4a65c_add_9ea2d 16 = .ok (.aload_n 0, 1) := by decide +kernel
theorem dJx4a65c_add_9ea2d_17 : decode cJx4a65c_add_9ea2d 17 = .ok (.getfield 48, 3) := by decide +kernel
theorem dJx4a65c_add_9ea2d_20 : decode cJx4a65c_add_9ea2d 20 = .ok (.invokevirtual 131, 3) := by decide +kernel
theorem dJx4a65c_add_9ea2d_23 : decode cJx4a65c_add_9ea2d 23 = .ok (.iconst 1, 1) := by decide +kernel
theorem dJx4a65c_add_9ea2d_24 : decode cJx4a65c_add_9ea2d 24 = .ok (.ireturn, 1) := by decide +kernel
theorem dJ7_copyOf_1904c_0 : decode cJ7_copyOf_1904c 0 = .ok (.aload_n 0, 1) := by decide +kernel
theorem dJ7_copyOf_1904c_1 : decode cJ7_copyOf_1904c 1 = .ok (.iload_n 1, 1) := by decide +kernel
theorem dJ7_copyOf_1904c_2 : decode cJ7_copyOf_1904c 2 = .ok (.aload_n 0, 1) := by decide +kernel
theorem dJ7_copyOf_1904c_3 : decode cJ7_copyOf_1904c 3 = .ok (.invokevirtual 86, 3) := by decide +kernel
theorem dJ7_copyOf_1904c_6 : decode cJ7_copyOf_1904c 6 = .ok (.invokestatic 300, 3) := by decide +kernel
theorem dJ7_copyOf_1904c_9 : decode cJ7_copyOf_1904c 9 = .ok (.areturn, 1) := by decide +kernel
theorem dJ7_copyOf_6403c_0 : decode cJ7_copyOf_6403c 0 = .ok (.aload_n 2, 1) := by decide +kernel
theorem dJ7_copyOf_6403c_1 : decode cJ7_copyOf_6403c 1 = .ok (.ldc 110, 2) := by decide +kernel
theorem dJ7_copyOf_6403c_3 : decode cJ7_copyOf_6403c 3 = .ok (.if_acmp .ne 10, 3) := by decide +kernel
theorem dJ7_copyOf_6403c_6 : decode cJ7_copyOf_6403c 6 = .ok (.iload_n 1, 1) := by decide +kernel
theorem dJ7_copyOf_6403c_7 : decode cJ7_copyOf_6403c 7 = .ok (.anewarray 2, 3) := by decide +kernel
theorem dJ7_copyOf_6403c_10 : decode cJ7_copyOf_6403c 10 = .ok (.goto 14, 3) := by decide +kernel
theorem dJ7_copyOf_6403c_13 : decode cJ7_copyOf_6403c 13 = .ok (.aload_n 2, 1) := by decide +kernel
theorem dJ7_copyOf_6403c_14 : decode cJ7_copyOf_6403c 14 = .ok (.invokevirtual 90, 3) := by decide +kernel
theorem dJ7_copyOf_6403c_17 : decode cJ7_copyOf_6403c 17 = .ok (.iload_n 1, 1) := by decide +kernel
theorem dJ7_copyOf_6403c_18 : decode cJ7_copyOf_6403c 18 = .ok (.invokestatic 95, 3) := by decide +kernel
theorem dJ7_copyOf_6403c_21 : decode cJ7_copyOf_6403c 21 = .ok (.checkcast 110, 3) := by decide +kernel
theorem dJ7_copyOf_6403c_24 : decode cJ7_copyOf_6403c 24 = .ok (.astore_n 3, 1) := by decide +kernel
theorem dJ7_copyOf_6403c_25 : decode cJ7_copyOf_6403c 25 = .ok (.aload_n 0, 1) := by decide +kernel
theorem dJ7_copyOf_6403c_26 : decode cJ7_copyOf_6403c 26 = .ok (.iconst 0, 1) := by decide +kernel
theorem dJ7_copyOf_6403c_27 : decode cJ7_copyOf_6403c 27 = .ok (.aload_n 3, 1) := by decide +kernel
theorem dJ7_copyOf_6403c_28 : decode cJ7_copyOf_6403c 28 = .ok (.iconst 0, 1) := by decide +kernel
theorem dJ7_copyOf_6403c_29 : decode cJ7_copyOf_6403c 29 = .ok (.aload_n 0, 1) := by decide +kernel
theorem dJ7_copyOf_6403c_30 : decode cJ7_copyOf_6403c 30 = .ok (.arraylength, 1) := by decide +kernel
theorem dJ7_copyOf_6403c_31 : decode cJ7_copyOf_6403c 31 = .ok (.iload_n 1, 1) := by decide +kernel
theorem dJ7_copyOf_6403c_32 : decode cJ7_copyOf_6403c 32 = .ok (.invokestatic 304, 3) := by decide +kernel
theorem dJ7_copyOf_6403c_35 : decode cJ7_copyOf_6403c 35 = .ok (.invokestatic 150, 3) := by decide +kernel
theorem dJ7_copyOf_6403c_38 : decode cJ7_copyOf_6403c 38 = .ok (.aload_n 3, 1) := by decide +kernel
theorem dJ7_copyOf_6403c_39 : decode cJ7_copyOf_6403c 39 = .ok (.areturn, 1) := by decide +kernel
theorem dJ15_checkIndex_7cf53_0 : decode cJ15_checkIndex_7cf53 0 = .ok (.iload_n 0, 1) := by decide +kernel
theorem dJ15_checkIndex_7cf53_1 : decode cJ15_checkIndex_7cf53 1 = .ok (.iload_n 1, 1) := by decide +kernel
theorem dJ15_checkIndex_7cf53_2 : decode cJ15_checkIndex_7cf53 2 = .ok (.aconst_null, 1) := by decide +kernel
theorem dJ15_checkIndex_7cf53_3 : decode cJ15_checkIndex_7cf53 3 = .ok (.invokestatic 105, 3) := by decide +kernel
theorem dJ15_checkIndex_7cf53_6 : decode cJ15_checkIndex_7cf53 6 = .ok (.ireturn, 1) := by decide +kernel
theorem dJ8_newLength_cabcc_0 : decode cJ8_newLength_cabcc 0 = .ok (.iload_n 0, 1) := by decide +kernel
theorem dJ8_newLength_cabcc_1 : decode cJ8_newLength_cabcc 1 = .ok (.iload_n 1, 1) := by decide +kernel
theorem dJ8_newLength_cabcc_2 : decode cJ8_newLength_cabcc 2 = .ok (.iload_n 2, 1) := by decide +kernel
theorem dJ8_newLength_cabcc_3 : decode cJ8_newLength_cabcc 3 = .ok (.invokestatic 194, 3) := by decide +kernel
theorem dJ8_newLength_cabcc_6 : decode cJ8_newLength_cabcc 6 = .ok (.iadd, 1) := by decide +kernel
theorem dJ8_newLength_cabcc_7 : decode cJ8_newLength_cabcc 7 = .ok (.istore_n 3, 1) := by decide +kernel
theorem dJ8_newLength_cabcc_8 : decode cJ8_newLength_cabcc 8 = .ok (.iconst 0, 1) := by decide +kernel
theorem dJ8_newLength_cabcc_9 : decode cJ8_newLength_cabcc 9 = .ok (.iload_n 3, 1) := by decide +kernel
theorem dJ8_newLength_cabcc_10 : decode cJ8_newLength_cabcc 10 = .ok (.if_icmp .ge 11, 3) := by decide +kernel
theorem dJ8_newLength_cabcc_13 : decode cJ8_newLength_cabcc 13 = .ok (.iload_n 3, 1) := by decide +kernel
theorem dJ8_newLength_cabcc_14 : decode cJ8_newLength_cabcc 14 = .ok (.ldc 200, 2) := by decide +kernel
theorem dJ8_newLength_cabcc_16 : decode cJ8_newLength_cabcc 16 = .ok (.if_icmp .gt 5, 3) := by decide +kernel
theorem dJ8_newLength_cabcc_19 : decode cJ8_newLength_cabcc 19 = .ok (.iload_n 3, 1) := by decide +kernel
theorem dJ8_newLength_cabcc_20 : decode cJ8_newLength_cabcc 20 = .ok (.ireturn, 1) := by decide +kernel
theorem dJ8_newLength_cabcc_21 : decode cJ8_newLength_cabcc 21 = .ok (.iload_n 0, 1) := by decide +kernel
theorem dJ8_newLength_cabcc_22 : decode cJ8_newLength_cabcc 22 = .ok (.iload_n 1, 1) := by decide +kernel
theorem dJ8_newLength_cabcc_23 : decode cJ8_newLength_cabcc 23 = .ok (.invokestatic 201, 3) := by decide +kernel
theorem dJ8_newLength_cabcc_26 : decode cJ8_newLength_cabcc 26 = .ok (.ireturn, 1) := by decide +kernel
theorem dJ8_hugeLength_7cf53_0 : decode cJ8_hugeLength_7cf53 0 = .ok (.iload_n 0, 1) := by decide +kernel
theorem dJ8_hugeLength_7cf53_1 : decode cJ8_hugeLength_7cf53 1 = .ok (.iload_n 1, 1) := by decide +kernel
theorem dJ8_hugeLength_7cf53_2 : decode cJ8_hugeLength_7cf53 2 = .ok (.iadd, 1) := by decide +kernel
theorem dJ8_hugeLength_7cf53_3 : decode cJ8_hugeLength_7cf53 3 = .ok (.istore_n 2, 1) := by decide +kernel
theorem dJ8_hugeLength_7cf53_4 : decode cJ8_hugeLength_7cf53 4 = .ok (.iload_n 2, 1) := by decide +kernel
theorem dJ8_hugeLength_7cf53_5 : decode cJ8_hugeLength_7cf53 5 = .ok (.ifCond .ge 44, 3) := by decide +kernel
end
section
theorem dJ8_hugeLength_7cf53_8 : decode cJ8_hugeLength_7cf53 8 = .ok (.new 204, 3) := by decide +kernel
theorem dJ8_hugeLength_7cf53_11 : decode cJ8_hugeLength_7cf53 11 = .ok (.dup, 1) := by decide +kernel
theorem dJ8_hugeLength_7cf53_12 : decode cJ8_hugeLength_7cf53 12 = .ok (.new 89, 3) := by decide +kernel
theorem dJ8_hugeLength_7cf53_15 : decode cJ8_hugeLength_7cf53 15 = .ok (.dup, 1) := by decide +kernel
theorem dJ8_hugeLength_7cf53_16 : decode cJ8_hugeLength_7cf53 16 = .ok (.invokespecial 91, 3) := by decide +kernel
theorem dJ8_hugeLength_7cf53_19 : decode cJ8_hugeLength_7cf53 19 = .ok (.ldc 206, 2) := by decide +kernel
theorem dJ8_hugeLength_7cf53_21 : decode cJ8_hugeLength_7cf53 21 = .ok (.invokevirtual 94, 3) := by decide +kernel
theorem dJ8_hugeLength_7cf53_24 : decode cJ8_hugeLength_7cf53 24 = .ok (.iload_n 0, 1) := by decide +kernel
theorem dJ8_hugeLength_7cf53_25 : decode cJ8_hugeLength_7cf53 25 = .ok (.invokevirtual 98, 3) := by decide +kernel
theorem dJ8_hugeLength_7cf53_28 : decode cJ8_hugeLength_7cf53 28 = .ok (.ldc 208, 2) := by decide +kernel
theorem dJ8_hugeLength_7cf53_30 : decode cJ8_hugeLength_7cf53 30 = .ok (.invokevirtual 94, 3) := by decide +kernel
theorem dJ8_hugeLength_7cf53_33 : decode cJ8_hugeLength_7cf53 33 = .ok (.iload_n 1, 1) := by decide +kernel
theorem dJ8_hugeLength_7cf53_34 : decode cJ8_hugeLength_7cf53 34 = .ok (.invokevirtual 98, 3) := by decide +kernel
theorem dJ8_hugeLength_7cf53_37 : decode cJ8_hugeLength_7cf53 37 = .ok (.ldc 210, 2) := by decide +kernel
theorem dJ8_hugeLength_7cf53_39 : decode cJ8_hugeLength_7cf53 39 = .ok (.invokevirtual 94, 3) := by decide +kernel
theorem dJ8_hugeLength_7cf53_42 : decode cJ8_hugeLength_7cf53 42 = .ok (.invokevirtual 101, 3) := by decide +kernel
theorem dJ8_hugeLength_7cf53_45 : decode cJ8_hugeLength_7cf53 45 = .ok (.invokespecial 212, 3) := by decide +kernel
theorem dJ8_hugeLength_7cf53_48 : decode cJ8_hugeLength_7cf53 48 = .ok (.athrow, 1) := by decide +kernel
theorem dJ8_hugeLength_7cf53_49 : decode cJ8_hugeLength_7cf53 49 = .ok (.iload_n 2, 1) := by decide +kernel
theorem dJ8_hugeLength_7cf53_50 : decode cJ8_hugeLength_7cf53 50 = .ok (.ldc 200, 2) := by decide +kernel
theorem dJ8_hugeLength_7cf53_52 : decode cJ8_hugeLength_7cf53 52 = .ok (.if_icmp .gt 6, 3) := by decide +kernel
theorem dJ8_hugeLength_7cf53_55 : decode cJ8_hugeLength_7cf53 55 = .ok (.ldc 200, 2) := by decide +kernel
theorem dJ8_hugeLength_7cf53_57 : decode cJ8_hugeLength_7cf53 57 = .ok (.ireturn, 1) := by decide +kernel
theorem dJ8_hugeLength_7cf53_58 : decode cJ8_hugeLength_7cf53 58 = .ok (.iload_n 2, 1) := by decide +kernel
theorem dJ8_hugeLength_7cf53_59 : decode cJ8_hugeLength_7cf53 59 = .ok (.ireturn, 1) := by decide +kernel
theorem dJ3_checkIndex_8e157_0 : decode cJ3_checkIndex_8e157 0 = .ok (.iload_n 0, 1) := by decide +kernel
theorem dJ3_checkIndex_8e157_1 : decode cJ3_checkIndex_8e157 1 = .ok (.ifCond .lt 8, 3) := by decide +kernel
theorem dJ3_checkIndex_8e157_4 : decode cJ3_checkIndex_8e157 4 = .ok (.iload_n 0, 1) := by decide +kernel
theorem dJ3_checkIndex_8e157_5 : decode cJ3_checkIndex_8e157 5 = .ok (.iload_n 1, 1) := by decide +kernel
theorem dJ3_checkIndex_8e157_6 : decode cJ3_checkIndex_8e157 6 = .ok (.if_icmp .lt 10, 3) := by decide +kernel
theorem dJ3_checkIndex_8e157_9 : decode cJ3_checkIndex_8e157 9 = .ok (.aload_n 2, 1) := by decide +kernel
theorem dJ3_checkIndex_8e157_10 : decode cJ3_checkIndex_8e157 10 = .ok (.iload_n 0, 1) := by decide +kernel
theorem dJ3_checkIndex_8e157_11 : decode cJ3_checkIndex_8e157 11 = .ok (.iload_n 1, 1) := by decide +kernel
theorem dJ3_checkIndex_8e157_12 : decode cJ3_checkIndex_8e157 12 = .ok (.invokestatic 95, 3) := by decide +kernel
theorem dJ3_checkIndex_8e157_15 : decode cJ3_checkIndex_8e157 15 = .ok (.athrow, 1) := by decide +kernel
theorem dJ3_checkIndex_8e157_16 : decode cJ3_checkIndex_8e157 16 = .ok (.iload_n 0, 1) := by decide +kernel
theorem dJ3_checkIndex_8e157_17 : decode cJ3_checkIndex_8e157 17 = .ok (.ireturn, 1) := by decide +kernel
theorem dL_jumper_0 : decode cL_jumper 0 = .ok (.aload_n 3, 1) := by decide +kernel
theorem dL_jumper_1 : decode cL_jumper 1 = .ok (.iconst 0, 1) := by decide +kernel
theorem dL_jumper_2 : decode cL_jumper 2 = .ok (.aload_n 0, 1) := by decide +kernel
theorem dL_jumper_3 : decode cL_jumper 3 = .ok (.iload_n 1, 1) := by decide +kernel
theorem dL_jumper_4 : decode cL_jumper 4 = .ok (.iload_n 2, 1) := by decide +kernel
theorem dL_jumper_5 : decode cL_jumper 5 = .ok (.invokevirtual 7, 3) := by decide +kernel
theorem dL_jumper_8 : decode cL_jumper 8 = .ok (.i2l, 1) := by decide +kernel
theorem dL_jumper_9 : decode cL_jumper 9 = .ok (.lastore, 1) := by decide +kernel
theorem dL_jumper_10 : decode cL_jumper 10 = .ok (.goto 11, 3) := by decide +kernel
theorem dL_jumper_13 : decode cL_jumper 13 = .ok (.astore 4, 2) := by decide +kernel
theorem dL_jumper_15 : decode cL_jumper 15 = .ok (.iconst 1, 1) := by decide +kernel
theorem dL_jumper_16 : decode cL_jumper 16 = .ok (.ireturn, 1) := by decide +kernel
theorem dL_jumper_17 : decode cL_jumper 17 = .ok (.astore 4, 2) := by decide +kernel
theorem dL_jumper_19 : decode cL_jumper 19 = .ok (.iconst 2, 1) := by decide +kernel
theorem dL_jumper_20 : decode cL_jumper 20 = .ok (.ireturn, 1) := by decide +kernel
theorem dL_jumper_21 : decode cL_jumper 21 = .ok (.iconst 0, 1) := by decide +kernel
theorem dL_jumper_22 : decode cL_jumper 22 = .ok (.ireturn, 1) := by decide +kernel
theorem dL_rig_0 : decode cL_rig 0 = .ok (.aload_n 3, 1) := by decide +kernel
theorem dL_rig_1 : decode cL_rig 1 = .ok (.iconst 0, 1) := by decide +kernel
theorem dL_rig_2 : decode cL_rig 2 = .ok (.aload_n 0, 1) := by decide +kernel
theorem dL_rig_3 : decode cL_rig 3 = .ok (.iload_n 1, 1) := by decide +kernel
theorem dL_rig_4 : decode cL_rig 4 = .ok (.iload_n 2, 1) := by decide +kernel
theorem dL_rig_5 : decode cL_rig 5 = .ok (.invokevirtual 17, 3) := by decide +kernel
theorem dL_rig_8 : decode cL_rig 8 = .ok (.i2l, 1) := by decide +kernel
theorem dL_rig_9 : decode cL_rig 9 = .ok (.lastore, 1) := by decide +kernel
theorem dL_rig_10 : decode cL_rig 10 = .ok (.goto 11, 3) := by decide +kernel
theorem dL_rig_13 : decode cL_rig 13 = .ok (.astore 4, 2) := by decide +kernel
theorem dL_rig_15 : decode cL_rig 15 = .ok (.iconst 1, 1) := by decide +kernel
theorem dL_rig_16 : decode cL_rig 16 = .ok (.ireturn, 1) := by decide +kernel
theorem dL_rig_17 : decode cL_rig 17 = .ok (.astore 4, 2) := by decide +kernel
theorem dL_rig_19 : decode cL_rig 19 = .ok (.iconst 2, 1) := by decide +kernel
theorem dL_rig_20 : decode cL_rig 20 = .ok (.ireturn, 1) := by decide +kernel
theorem dL_rig_21 : decode cL_rig 21 = .ok (.iconst 0, 1) := by decide +kernel
theorem dL_rig_22 : decode cL_rig 22 = .ok (.ireturn, 1) := by decide +kernel
theorem dL_lend_0 : decode cL_lend 0 = .ok (.aload_n 3, 1) := by decide +kernel
theorem dL_lend_1 : decode cL_lend 1 = .ok (.iconst 0, 1) := by decide +kernel
theorem dL_lend_2 : decode cL_lend 2 = .ok (.aload_n 0, 1) := by decide +kernel
theorem dL_lend_3 : decode cL_lend 3 = .ok (.iload_n 1, 1) := by decide +kernel
theorem dL_lend_4 : decode cL_lend 4 = .ok (.iload_n 2, 1) := by decide +kernel
theorem dL_lend_5 : decode cL_lend 5 = .ok (.invokevirtual 20, 3) := by decide +kernel
theorem dL_lend_8 : decode cL_lend 8 = .ok (.i2l, 1) := by decide +kernel
theorem dL_lend_9 : decode cL_lend 9 = .ok (.lastore, 1) := by decide +kernel
theorem dL_lend_10 : decode cL_lend 10 = .ok (.goto 11, 3) := by decide +kernel
theorem dL_lend_13 : decode cL_lend 13 = .ok (.astore 4, 2) := by decide +kernel
theorem dL_lend_15 : decode cL_lend 15 = .ok (.iconst 1, 1) := by decide +kernel
theorem dL_lend_16 : decode cL_lend 16 = .ok (.ireturn, 1) := by decide +kernel
theorem dL_lend_17 : decode cL_lend 17 = .ok (.astore 4, 2) := by decide +kernel
theorem dL_lend_19 : decode cL_lend 19 = .ok (.iconst 2, 1) := by decide +kernel
theorem dL_lend_20 : decode cL_lend 20 = .ok (.ireturn, 1) := by decide +kernel
theorem dL_lend_21 : decode cL_lend 21 = .ok (.iconst 0, 1) := by decide +kernel
theorem dL_lend_22 : decode cL_lend 22 = .ok (.ireturn, 1) := by decide +kernel
theorem dL_pack_0 : decode cL_pack 0 = .ok (.aload_n 3, 1) := by decide +kernel
theorem dL_pack_1 : decode cL_pack 1 = .ok (.iconst 0, 1) := by decide +kernel
theorem dL_pack_2 : decode cL_pack 2 = .ok (.aload_n 0, 1) := by decide +kernel
theorem dL_pack_3 : decode cL_pack 3 = .ok (.iload_n 1, 1) := by decide +kernel
theorem dL_pack_4 : decode cL_pack 4 = .ok (.iload_n 2, 1) := by decide +kernel
theorem dL_pack_5 : decode cL_pack 5 = .ok (.invokevirtual 25, 3) := by decide +kernel
theorem dL_pack_8 : decode cL_pack 8 = .ok (.i2l, 1) := by decide +kernel
theorem dL_pack_9 : decode cL_pack 9 = .ok (.lastore, 1) := by decide +kernel
theorem dL_pack_10 : decode cL_pack 10 = .ok (.goto 11, 3) := by decide +kernel
theorem dL_pack_13 : decode cL_pack 13 = .ok (.astore 4, 2) := by decide +kernel
theorem dL_pack_15 : decode cL_pack 15 = .ok (.iconst 1, 1) := by decide +kernel
theorem dL_pack_16 : decode cL_pack 16 = .ok (.ireturn, 1) := by decide +kernel
theorem dL_pack_17 : decode cL_pack 17 = .ok (.astore 4, 2) := by decide +kernel
theorem dL_pack_19 : decode cL_pack 19 = .ok (.iconst 2, 1) := by decide +kernel
theorem dL_pack_20 : decode cL_pack 20 = .ok (.ireturn, 1) := by decide +kernel
theorem dL_pack_21 : decode cL_pack 21 = .ok (.iconst 0, 1) := by decide +kernel
theorem dL_pack_22 : decode cL_pack 22 = .ok (.ireturn, 1) := by decide +kernel
theorem dL_renew_0 : decode cL_renew 0 = .ok (.aload_n 2, 1) := by decide +kernel
theorem dL_renew_1 : decode cL_renew 1 = .ok (.iconst 0, 1) := by decide +kernel
theorem dL_renew_2 : decode cL_renew 2 = .ok (.aload_n 0, 1) := by decide +kernel
theorem dL_renew_3 : decode cL_renew 3 = .ok (.iload_n 1, 1) := by decide +kernel
theorem dL_renew_4 : decode cL_renew 4 = .ok (.invokevirtual 28, 3) := by decide +kernel
theorem dL_renew_7 : decode cL_renew 7 = .ok (.i2l, 1) := by decide +kernel
theorem dL_renew_8 : decode cL_renew 8 = .ok (.lastore, 1) := by decide +kernel
theorem dL_renew_9 : decode cL_renew 9 = .ok (.goto 6, 3) := by decide +kernel
theorem dL_renew_12 : decode cL_renew 12 = .ok (.astore_n 3, 1) := by decide +kernel
theorem dL_renew_13 : decode cL_renew 13 = .ok (.iconst 1, 1) := by decide +kernel
theorem dL_renew_14 : decode cL_renew 14 = .ok (.ireturn, 1) := by decide +kernel
theorem dL_renew_15 : decode cL_renew 15 = .ok (.iconst 0, 1) := by decide +kernel
theorem dL_renew_16 : decode cL_renew 16 = .ok (.ireturn, 1) := by decide +kernel
theorem dL_pass_0 : decode cL_pass 0 = .ok (.aload_n 2, 1) := by decide +kernel
theorem dL_pass_1 : decode cL_pass 1 = .ok (.iconst 0, 1) := by decide +kernel
theorem dL_pass_2 : decode cL_pass 2 = .ok (.aload_n 0, 1) := by decide +kernel
theorem dL_pass_3 : decode cL_pass 3 = .ok (.iload_n 1, 1) := by decide +kernel
theorem dL_pass_4 : decode cL_pass 4 = .ok (.invokevirtual 32, 3) := by decide +kernel
theorem dL_pass_7 : decode cL_pass 7 = .ok (.i2l, 1) := by decide +kernel
theorem dL_pass_8 : decode cL_pass 8 = .ok (.lastore, 1) := by decide +kernel
theorem dL_pass_9 : decode cL_pass 9 = .ok (.goto 9, 3) := by decide +kernel
theorem dL_pass_12 : decode cL_pass 12 = .ok (.astore_n 3, 1) := by decide +kernel
theorem dL_pass_13 : decode cL_pass 13 = .ok (.iconst 1, 1) := by decide +kernel
theorem dL_pass_14 : decode cL_pass 14 = .ok (.ireturn, 1) := by decide +kernel
theorem dL_pass_15 : decode cL_pass 15 = .ok (.astore_n 3, 1) := by decide +kernel
theorem dL_pass_16 : decode cL_pass 16 = .ok (.iconst 2, 1) := by decide +kernel
theorem dL_pass_17 : decode cL_pass 17 = .ok (.ireturn, 1) := by decide +kernel
theorem dL_pass_18 : decode cL_pass 18 = .ok (.iconst 0, 1) := by decide +kernel
theorem dL_pass_19 : decode cL_pass 19 = .ok (.ireturn, 1) := by decide +kernel
theorem dL_wind_0 : decode cL_wind 0 = .ok (.aload 4, 2) := by decide +kernel
theorem dL_wind_2 : decode cL_wind 2 = .ok (.iconst 0, 1) := by decide +kernel
theorem dL_wind_3 : decode cL_wind 3 = .ok (.aload_n 0, 1) := by decide +kernel
theorem dL_wind_4 : decode cL_wind 4 = .ok (.iload_n 1, 1) := by decide +kernel
theorem dL_wind_5 : decode cL_wind 5 = .ok (.iload_n 2, 1) := by decide +kernel
theorem dL_wind_6 : decode cL_wind 6 = .ok (.iload_n 3, 1) := by decide +kernel
theorem dL_wind_7 : decode cL_wind 7 = .ok (.invokevirtual 35, 3) := by decide +kernel
theorem dL_wind_10 : decode cL_wind 10 = .ok (.i2l, 1) := by decide +kernel
theorem dL_wind_11 : decode cL_wind 11 = .ok (.lastore, 1) := by decide +kernel
theorem dL_wind_12 : decode cL_wind 12 = .ok (.goto 11, 3) := by decide +kernel
theorem dL_wind_15 : decode cL_wind 15 = .ok (.astore 5, 2) := by decide +kernel
theorem dL_wind_17 : decode cL_wind 17 = .ok (.iconst 1, 1) := by decide +kernel
theorem dL_wind_18 : decode cL_wind 18 = .ok (.ireturn, 1) := by decide +kernel
theorem dL_wind_19 : decode cL_wind 19 = .ok (.astore 5, 2) := by decide +kernel
theorem dL_wind_21 : decode cL_wind 21 = .ok (.iconst 2, 1) := by decide +kernel
theorem dL_wind_22 : decode cL_wind 22 = .ok (.ireturn, 1) := by decide +kernel
theorem dL_wind_23 : decode cL_wind 23 = .ok (.iconst 0, 1) := by decide +kernel
theorem dL_wind_24 : decode cL_wind 24 = .ok (.ireturn, 1) := by decide +kernel
theorem dL_board_0 : decode cL_board 0 = .ok (.aload 4, 2) := by decide +kernel
theorem dL_board_2 : decode cL_board 2 = .ok (.iconst 0, 1) := by decide +kernel
theorem dL_board_3 : decode cL_board 3 = .ok (.aload_n 0, 1) := by decide +kernel
theorem dL_board_4 : decode cL_board 4 = .ok (.iload_n 1, 1) := by decide +kernel
theorem dL_board_5 : decode cL_board 5 = .ok (.iload_n 2, 1) := by decide +kernel
theorem dL_board_6 : decode cL_board 6 = .ok (.iload_n 3, 1) := by decide +kernel
theorem dL_board_7 : decode cL_board 7 = .ok (.invokevirtual 39, 3) := by decide +kernel
theorem dL_board_10 : decode cL_board 10 = .ok (.i2l, 1) := by decide +kernel
theorem dL_board_11 : decode cL_board 11 = .ok (.lastore, 1) := by decide +kernel
theorem dL_board_12 : decode cL_board 12 = .ok (.goto 15, 3) := by decide +kernel
theorem dL_board_15 : decode cL_board 15 = .ok (.astore 5, 2) := by decide +kernel
theorem dL_board_17 : decode cL_board 17 = .ok (.iconst 1, 1) := by decide +kernel
theorem dL_board_18 : decode cL_board 18 = .ok (.ireturn, 1) := by decide +kernel
theorem dL_board_19 : decode cL_board 19 = .ok (.astore 5, 2) := by decide +kernel
theorem dL_board_21 : decode cL_board 21 = .ok (.iconst 2, 1) := by decide +kernel
theorem dL_board_22 : decode cL_board 22 = .ok (.ireturn, 1) := by decide +kernel
theorem dL_board_23 : decode cL_board 23 = .ok (.astore 5, 2) := by decide +kernel
theorem dL_board_25 : decode cL_board 25 = .ok (.iconst 3, 1) := by decide +kernel
theorem dL_board_26 : decode cL_board 26 = .ok (.ireturn, 1) := by decide +kernel
theorem dL_board_27 : decode cL_board 27 = .ok (.iconst 0, 1) := by decide +kernel
theorem dL_board_28 : decode cL_board 28 = .ok (.ireturn, 1) := by decide +kernel
theorem dL_fly_0 : decode cL_fly 0 = .ok (.aload_n 3, 1) := by decide +kernel
theorem dL_fly_1 : decode cL_fly 1 = .ok (.iconst 0, 1) := by decide +kernel
theorem dL_fly_2 : decode cL_fly 2 = .ok (.aload_n 0, 1) := by decide +kernel
theorem dL_fly_3 : decode cL_fly 3 = .ok (.iload_n 1, 1) := by decide +kernel
theorem dL_fly_4 : decode cL_fly 4 = .ok (.iload_n 2, 1) := by decide +kernel
theorem dL_fly_5 : decode cL_fly 5 = .ok (.invokevirtual 42, 3) := by decide +kernel
theorem dL_fly_8 : decode cL_fly 8 = .ok (.i2l, 1) := by decide +kernel
theorem dL_fly_9 : decode cL_fly 9 = .ok (.lastore, 1) := by decide +kernel
theorem dL_fly_10 : decode cL_fly 10 = .ok (.goto 11, 3) := by decide +kernel
theorem dL_fly_13 : decode cL_fly 13 = .ok (.astore 4, 2) := by decide +kernel
theorem dL_fly_15 : decode cL_fly 15 = .ok (.iconst 1, 1) := by decide +kernel
theorem dL_fly_16 : decode cL_fly 16 = .ok (.ireturn, 1) := by decide +kernel
theorem dL_fly_17 : decode cL_fly 17 = .ok (.astore 4, 2) := by decide +kernel
theorem dL_fly_19 : decode cL_fly 19 = .ok (.iconst 2, 1) := by decide +kernel
theorem dL_fly_20 : decode cL_fly 20 = .ok (.ireturn, 1) := by decide +kernel
theorem dL_fly_21 : decode cL_fly 21 = .ok (.iconst 0, 1) := by decide +kernel
theorem dL_fly_22 : decode cL_fly 22 = .ok (.ireturn, 1) := by decide +kernel
theorem dL_ofJumper_0 : decode cL_ofJumper 0 = .ok (.aload_n 3, 1) := by decide +kernel
theorem dL_ofJumper_1 : decode cL_ofJumper 1 = .ok (.iconst 0, 1) := by decide +kernel
theorem dL_ofJumper_2 : decode cL_ofJumper 2 = .ok (.aload_n 0, 1) := by decide +kernel
theorem dL_ofJumper_3 : decode cL_ofJumper 3 = .ok (.iload_n 1, 1) := by decide +kernel
theorem dL_ofJumper_4 : decode cL_ofJumper 4 = .ok (.iload_n 2, 1) := by decide +kernel
theorem dL_ofJumper_5 : decode cL_ofJumper 5 = .ok (.invokevirtual 45, 3) := by decide +kernel
theorem dL_ofJumper_8 : decode cL_ofJumper 8 = .ok (.i2l, 1) := by decide +kernel
theorem dL_ofJumper_9 : decode cL_ofJumper 9 = .ok (.lastore, 1) := by decide +kernel
theorem dL_ofJumper_10 : decode cL_ofJumper 10 = .ok (.goto 11, 3) := by decide +kernel
theorem dL_ofJumper_13 : decode cL_ofJumper 13 = .ok (.astore 4, 2) := by decide +kernel
theorem dL_ofJumper_15 : decode cL_ofJumper 15 = .ok (.iconst 1, 1) := by decide +kernel
theorem dL_ofJumper_16 : decode cL_ofJumper 16 = .ok (.ireturn, 1) := by decide +kernel
theorem dL_ofJumper_17 : decode cL_ofJumper 17 = .ok (.astore 4, 2) := by decide +kernel
theorem dL_ofJumper_19 : decode cL_ofJumper 19 = .ok (.iconst 2, 1) := by decide +kernel
theorem dL_ofJumper_20 : decode cL_ofJumper 20 = .ok (.ireturn, 1) := by decide +kernel
theorem dL_ofJumper_21 : decode cL_ofJumper 21 = .ok (.iconst 0, 1) := by decide +kernel
theorem dL_ofJumper_22 : decode cL_ofJumper 22 = .ok (.ireturn, 1) := by decide +kernel
theorem dL_loading_0 : decode cL_loading 0 = .ok (.aload_n 2, 1) := by decide +kernel
theorem dL_loading_1 : decode cL_loading 1 = .ok (.iconst 0, 1) := by decide +kernel
theorem dL_loading_2 : decode cL_loading 2 = .ok (.aload_n 0, 1) := by decide +kernel
theorem dL_loading_3 : decode cL_loading 3 = .ok (.iload_n 1, 1) := by decide +kernel
theorem dL_loading_4 : decode cL_loading 4 = .ok (.invokevirtual 48, 3) := by decide +kernel
theorem dL_loading_7 : decode cL_loading 7 = .ok (.dastore, 1) := by decide +kernel
theorem dL_loading_8 : decode cL_loading 8 = .ok (.goto 6, 3) := by decide +kernel
theorem dL_loading_11 : decode cL_loading 11 = .ok (.astore_n 3, 1) := by decide +kernel
theorem dL_loading_12 : decode cL_loading 12 = .ok (.iconst 1, 1) := by decide +kernel
theorem dL_loading_13 : decode cL_loading 13 = .ok (.ireturn, 1) := by decide +kernel
theorem dL_loading_14 : decode cL_loading 14 = .ok (.iconst 0, 1) := by decide +kernel
theorem dL_loading_15 : decode cL_loading 15 = .ok (.ireturn, 1) := by decide +kernel
theorem dL_landed_0 : decode cL_landed 0 = .ok (.aload_n 3, 1) := by decide +kernel
theorem dL_landed_1 : decode cL_landed 1 = .ok (.iconst 0, 1) := by decide +kernel
theorem dL_landed_2 : decode cL_landed 2 = .ok (.aload_n 0, 1) := by decide +kernel
theorem dL_landed_3 : decode cL_landed 3 = .ok (.iload_n 1, 1) := by decide +kernel
theorem dL_landed_4 : decode cL_landed 4 = .ok (.iload_n 2, 1) := by decide +kernel
theorem dL_landed_5 : decode cL_landed 5 = .ok (.invokevirtual 52, 3) := by decide +kernel
theorem dL_landed_8 : decode cL_landed 8 = .ok (.dastore, 1) := by decide +kernel
theorem dL_landed_9 : decode cL_landed 9 = .ok (.goto 7, 3) := by decide +kernel
theorem dL_landed_12 : decode cL_landed 12 = .ok (.astore 4, 2) := by decide +kernel
theorem dL_landed_14 : decode cL_landed 14 = .ok (.iconst 1, 1) := by decide +kernel
theorem dL_landed_15 : decode cL_landed 15 = .ok (.ireturn, 1) := by decide +kernel
theorem dL_landed_16 : decode cL_landed 16 = .ok (.iconst 0, 1) := by decide +kernel
theorem dL_landed_17 : decode cL_landed 17 = .ok (.ireturn, 1) := by decide +kernel
theorem dL_refuses_0 : decode cL_refuses 0 = .ok (.aload_n 2, 1) := by decide +kernel
theorem dL_refuses_1 : decode cL_refuses 1 = .ok (.iconst 0, 1) := by decide +kernel
theorem dL_refuses_2 : decode cL_refuses 2 = .ok (.aload_n 0, 1) := by decide +kernel
theorem dL_refuses_3 : decode cL_refuses 3 = .ok (.iload_n 1, 1) := by decide +kernel
theorem dL_refuses_4 : decode cL_refuses 4 = .ok (.invokevirtual 56, 3) := by decide +kernel
theorem dL_refuses_7 : decode cL_refuses 7 = .ok (.i2l, 1) := by decide +kernel
theorem dL_refuses_8 : decode cL_refuses 8 = .ok (.lastore, 1) := by decide +kernel
theorem dL_refuses_9 : decode cL_refuses 9 = .ok (.goto 6, 3) := by decide +kernel
theorem dL_refuses_12 : decode cL_refuses 12 = .ok (.astore_n 3, 1) := by decide +kernel
theorem dL_refuses_13 : decode cL_refuses 13 = .ok (.iconst 1, 1) := by decide +kernel
theorem dL_refuses_14 : decode cL_refuses 14 = .ok (.ireturn, 1) := by decide +kernel
theorem dL_refuses_15 : decode cL_refuses 15 = .ok (.iconst 0, 1) := by decide +kernel
theorem dL_refuses_16 : decode cL_refuses 16 = .ok (.ireturn, 1) := by decide +kernel
theorem dL_ofRig_0 : decode cL_ofRig 0 = .ok (.aload_n 3, 1) := by decide +kernel
theorem dL_ofRig_1 : decode cL_ofRig 1 = .ok (.iconst 0, 1) := by decide +kernel
theorem dL_ofRig_2 : decode cL_ofRig 2 = .ok (.aload_n 0, 1) := by decide +kernel
theorem dL_ofRig_3 : decode cL_ofRig 3 = .ok (.iload_n 1, 1) := by decide +kernel
theorem dL_ofRig_4 : decode cL_ofRig 4 = .ok (.iload_n 2, 1) := by decide +kernel
theorem dL_ofRig_5 : decode cL_ofRig 5 = .ok (.invokevirtual 59, 3) := by decide +kernel
theorem dL_ofRig_8 : decode cL_ofRig 8 = .ok (.i2l, 1) := by decide +kernel
theorem dL_ofRig_9 : decode cL_ofRig 9 = .ok (.lastore, 1) := by decide +kernel
theorem dL_ofRig_10 : decode cL_ofRig 10 = .ok (.goto 11, 3) := by decide +kernel
theorem dL_ofRig_13 : decode cL_ofRig 13 = .ok (.astore 4, 2) := by decide +kernel
theorem dL_ofRig_15 : decode cL_ofRig 15 = .ok (.iconst 1, 1) := by decide +kernel
theorem dL_ofRig_16 : decode cL_ofRig 16 = .ok (.ireturn, 1) := by decide +kernel
theorem dL_ofRig_17 : decode cL_ofRig 17 = .ok (.astore 4, 2) := by decide +kernel
theorem dL_ofRig_19 : decode cL_ofRig 19 = .ok (.iconst 2, 1) := by decide +kernel
theorem dL_ofRig_20 : decode cL_ofRig 20 = .ok (.ireturn, 1) := by decide +kernel
theorem dL_ofRig_21 : decode cL_ofRig 21 = .ok (.iconst 0, 1) := by decide +kernel
theorem dL_ofRig_22 : decode cL_ofRig 22 = .ok (.ireturn, 1) := by decide +kernel
theorem dL_wear_0 : decode cL_wear 0 = .ok (.aload_n 2, 1) := by decide +kernel
theorem dL_wear_1 : decode cL_wear 1 = .ok (.iconst 0, 1) := by decide +kernel
theorem dL_wear_2 : decode cL_wear 2 = .ok (.aload_n 0, 1) := by decide +kernel
theorem dL_wear_3 : decode cL_wear 3 = .ok (.iload_n 1, 1) := by decide +kernel
theorem dL_wear_4 : decode cL_wear 4 = .ok (.invokevirtual 62, 3) := by decide +kernel
theorem dL_wear_7 : decode cL_wear 7 = .ok (.dastore, 1) := by decide +kernel
theorem dL_wear_8 : decode cL_wear 8 = .ok (.goto 6, 3) := by decide +kernel
theorem dL_wear_11 : decode cL_wear 11 = .ok (.astore_n 3, 1) := by decide +kernel
theorem dL_wear_12 : decode cL_wear 12 = .ok (.iconst 1, 1) := by decide +kernel
theorem dL_wear_13 : decode cL_wear 13 = .ok (.ireturn, 1) := by decide +kernel
theorem dL_wear_14 : decode cL_wear 14 = .ok (.iconst 0, 1) := by decide +kernel
theorem dL_wear_15 : decode cL_wear 15 = .ok (.ireturn, 1) := by decide +kernel
theorem dL_ofWind_0 : decode cL_ofWind 0 = .ok (.aload_n 3, 1) := by decide +kernel
theorem dL_ofWind_1 : decode cL_ofWind 1 = .ok (.iconst 0, 1) := by decide +kernel
theorem dL_ofWind_2 : decode cL_ofWind 2 = .ok (.aload_n 0, 1) := by decide +kernel
theorem dL_ofWind_3 : decode cL_ofWind 3 = .ok (.iload_n 1, 1) := by decide +kernel
theorem dL_ofWind_4 : decode cL_ofWind 4 = .ok (.iload_n 2, 1) := by decide +kernel
theorem dL_ofWind_5 : decode cL_ofWind 5 = .ok (.invokevirtual 65, 3) := by decide +kernel
theorem dL_ofWind_8 : decode cL_ofWind 8 = .ok (.i2l, 1) := by decide +kernel
theorem dL_ofWind_9 : decode cL_ofWind 9 = .ok (.lastore, 1) := by decide +kernel
theorem dL_ofWind_10 : decode cL_ofWind 10 = .ok (.goto 7, 3) := by decide +kernel
theorem dL_ofWind_13 : decode cL_ofWind 13 = .ok (.astore 4, 2) := by decide +kernel
theorem dL_ofWind_15 : decode cL_ofWind 15 = .ok (.iconst 1, 1) := by decide +kernel
theorem dL_ofWind_16 : decode cL_ofWind 16 = .ok (.ireturn, 1) := by decide +kernel
theorem dL_ofWind_17 : decode cL_ofWind 17 = .ok (.iconst 0, 1) := by decide +kernel
theorem dL_ofWind_18 : decode cL_ofWind 18 = .ok (.ireturn, 1) := by decide +kernel
theorem dL_many_0 : decode cL_many 0 = .ok (.aload_n 2, 1) := by decide +kernel
theorem dL_many_1 : decode cL_many 1 = .ok (.iconst 0, 1) := by decide +kernel
theorem dL_many_2 : decode cL_many 2 = .ok (.aload_n 0, 1) := by decide +kernel
theorem dL_many_3 : decode cL_many 3 = .ok (.iload_n 1, 1) := by decide +kernel
theorem dL_many_4 : decode cL_many 4 = .ok (.invokevirtual 69, 3) := by decide +kernel
theorem dL_many_7 : decode cL_many 7 = .ok (.i2l, 1) := by decide +kernel
theorem dL_many_8 : decode cL_many 8 = .ok (.lastore, 1) := by decide +kernel
theorem dL_many_9 : decode cL_many 9 = .ok (.goto 6, 3) := by decide +kernel
theorem dL_many_12 : decode cL_many 12 = .ok (.astore_n 3, 1) := by decide +kernel
theorem dL_many_13 : decode cL_many 13 = .ok (.iconst 1, 1) := by decide +kernel
theorem dL_many_14 : decode cL_many 14 = .ok (.ireturn, 1) := by decide +kernel
theorem dL_many_15 : decode cL_many 15 = .ok (.iconst 0, 1) := by decide +kernel
theorem dL_many_16 : decode cL_many 16 = .ok (.ireturn, 1) := by decide +kernel
theorem dL_order_0 : decode cL_order 0 = .ok (.aload_n 2, 1) := by decide +kernel
theorem dL_order_1 : decode cL_order 1 = .ok (.iconst 0, 1) := by decide +kernel
theorem dL_order_2 : decode cL_order 2 = .ok (.aload_n 0, 1) := by decide +kernel
theorem dL_order_3 : decode cL_order 3 = .ok (.iload_n 1, 1) := by decide +kernel
theorem dL_order_4 : decode cL_order 4 = .ok (.invokevirtual 72, 3) := by decide +kernel
theorem dL_order_7 : decode cL_order 7 = .ok (.i2l, 1) := by decide +kernel
theorem dL_order_8 : decode cL_order 8 = .ok (.lastore, 1) := by decide +kernel
theorem dL_order_9 : decode cL_order 9 = .ok (.goto 6, 3) := by decide +kernel
theorem dL_order_12 : decode cL_order 12 = .ok (.astore_n 3, 1) := by decide +kernel
theorem dL_order_13 : decode cL_order 13 = .ok (.iconst 1, 1) := by decide +kernel
theorem dL_order_14 : decode cL_order 14 = .ok (.ireturn, 1) := by decide +kernel
theorem dL_order_15 : decode cL_order 15 = .ok (.iconst 0, 1) := by decide +kernel
theorem dL_order_16 : decode cL_order 16 = .ok (.ireturn, 1) := by decide +kernel
theorem dL_wouldLand_0 : decode cL_wouldLand 0 = .ok (.aload 6, 2) := by decide +kernel
theorem dL_wouldLand_2 : decode cL_wouldLand 2 = .ok (.iconst 0, 1) := by decide +kernel
theorem dL_wouldLand_3 : decode cL_wouldLand 3 = .ok (.aload_n 0, 1) := by decide +kernel
theorem dL_wouldLand_4 : decode cL_wouldLand 4 = .ok (.iload_n 1, 1) := by decide +kernel
theorem dL_wouldLand_5 : decode cL_wouldLand 5 = .ok (.iload_n 2, 1) := by decide +kernel
theorem dL_wouldLand_6 : decode cL_wouldLand 6 = .ok (.iload_n 3, 1) := by decide +kernel
theorem dL_wouldLand_7 : decode cL_wouldLand 7 = .ok (.iload 4, 2) := by decide +kernel
theorem dL_wouldLand_9 : decode cL_wouldLand 9 = .ok (.iload 5, 2) := by decide +kernel
theorem dL_wouldLand_11 : decode cL_wouldLand 11 = .ok (.invokevirtual 75, 3) := by decide +kernel
theorem dL_wouldLand_14 : decode cL_wouldLand 14 = .ok (.dastore, 1) := by decide +kernel
theorem dL_wouldLand_15 : decode cL_wouldLand 15 = .ok (.goto 15, 3) := by decide +kernel
theorem dL_wouldLand_18 : decode cL_wouldLand 18 = .ok (.astore 7, 2) := by decide +kernel
theorem dL_wouldLand_20 : decode cL_wouldLand 20 = .ok (.iconst 1, 1) := by decide +kernel
theorem dL_wouldLand_21 : decode cL_wouldLand 21 = .ok (.ireturn, 1) := by decide +kernel
theorem dL_wouldLand_22 : decode cL_wouldLand 22 = .ok (.astore 7, 2) := by decide +kernel
theorem dL_wouldLand_24 : decode cL_wouldLand 24 = .ok (.iconst 2, 1) := by decide +kernel
theorem dL_wouldLand_25 : decode cL_wouldLand 25 = .ok (.ireturn, 1) := by decide +kernel
theorem dL_wouldLand_26 : decode cL_wouldLand 26 = .ok (.astore 7, 2) := by decide +kernel
theorem dL_wouldLand_28 : decode cL_wouldLand 28 = .ok (.iconst 3, 1) := by decide +kernel
theorem dL_wouldLand_29 : decode cL_wouldLand 29 = .ok (.ireturn, 1) := by decide +kernel
theorem dL_wouldLand_30 : decode cL_wouldLand 30 = .ok (.iconst 0, 1) := by decide +kernel
theorem dL_wouldLand_31 : decode cL_wouldLand 31 = .ok (.ireturn, 1) := by decide +kernel
theorem dL_takes_0 : decode cL_takes 0 = .ok (.aload 4, 2) := by decide +kernel
theorem dL_takes_2 : decode cL_takes 2 = .ok (.iconst 0, 1) := by decide +kernel
theorem dL_takes_3 : decode cL_takes 3 = .ok (.aload_n 0, 1) := by decide +kernel
theorem dL_takes_4 : decode cL_takes 4 = .ok (.iload_n 1, 1) := by decide +kernel
theorem dL_takes_5 : decode cL_takes 5 = .ok (.iload_n 2, 1) := by decide +kernel
theorem dL_takes_6 : decode cL_takes 6 = .ok (.iload_n 3, 1) := by decide +kernel
theorem dL_takes_7 : decode cL_takes 7 = .ok (.invokevirtual 79, 3) := by decide +kernel
theorem dL_takes_10 : decode cL_takes 10 = .ok (.i2l, 1) := by decide +kernel
theorem dL_takes_11 : decode cL_takes 11 = .ok (.lastore, 1) := by decide +kernel
theorem dL_takes_12 : decode cL_takes 12 = .ok (.goto 15, 3) := by decide +kernel
theorem dL_takes_15 : decode cL_takes 15 = .ok (.astore 5, 2) := by decide +kernel
theorem dL_takes_17 : decode cL_takes 17 = .ok (.iconst 1, 1) := by decide +kernel
theorem dL_takes_18 : decode cL_takes 18 = .ok (.ireturn, 1) := by decide +kernel
theorem dL_takes_19 : decode cL_takes 19 = .ok (.astore 5, 2) := by decide +kernel
theorem dL_takes_21 : decode cL_takes 21 = .ok (.iconst 2, 1) := by decide +kernel
theorem dL_takes_22 : decode cL_takes 22 = .ok (.ireturn, 1) := by decide +kernel
theorem dL_takes_23 : decode cL_takes 23 = .ok (.astore 5, 2) := by decide +kernel
theorem dL_takes_25 : decode cL_takes 25 = .ok (.iconst 3, 1) := by decide +kernel
theorem dL_takes_26 : decode cL_takes 26 = .ok (.ireturn, 1) := by decide +kernel
theorem dL_takes_27 : decode cL_takes 27 = .ok (.iconst 0, 1) := by decide +kernel
theorem dL_takes_28 : decode cL_takes 28 = .ok (.ireturn, 1) := by decide +kernel
theorem dL_spot_0 : decode cL_spot 0 = .ok (.aload_n 2, 1) := by decide +kernel
theorem dL_spot_1 : decode cL_spot 1 = .ok (.iconst 0, 1) := by decide +kernel
theorem dL_spot_2 : decode cL_spot 2 = .ok (.aload_n 0, 1) := by decide +kernel
theorem dL_spot_3 : decode cL_spot 3 = .ok (.iload_n 1, 1) := by decide +kernel
theorem dL_spot_4 : decode cL_spot 4 = .ok (.invokevirtual 82, 3) := by decide +kernel
theorem dL_spot_7 : decode cL_spot 7 = .ok (.i2l, 1) := by decide +kernel
theorem dL_spot_8 : decode cL_spot 8 = .ok (.lastore, 1) := by decide +kernel
theorem dL_spot_9 : decode cL_spot 9 = .ok (.goto 6, 3) := by decide +kernel
theorem dL_spot_12 : decode cL_spot 12 = .ok (.astore_n 3, 1) := by decide +kernel
theorem dL_spot_13 : decode cL_spot 13 = .ok (.iconst 1, 1) := by decide +kernel
theorem dL_spot_14 : decode cL_spot 14 = .ok (.ireturn, 1) := by decide +kernel
theorem dL_spot_15 : decode cL_spot 15 = .ok (.iconst 0, 1) := by decide +kernel
theorem dL_spot_16 : decode cL_spot 16 = .ok (.ireturn, 1) := by decide +kernel
theorem dL_wouldMeet_0 : decode cL_wouldMeet 0 = .ok (.aload_n 3, 1) := by decide +kernel
theorem dL_wouldMeet_1 : decode cL_wouldMeet 1 = .ok (.iconst 0, 1) := by decide +kernel
theorem dL_wouldMeet_2 : decode cL_wouldMeet 2 = .ok (.aload_n 0, 1) := by decide +kernel
theorem dL_wouldMeet_3 : decode cL_wouldMeet 3 = .ok (.iload_n 1, 1) := by decide +kernel
theorem dL_wouldMeet_4 : decode cL_wouldMeet 4 = .ok (.iload_n 2, 1) := by decide +kernel
theorem dL_wouldMeet_5 : decode cL_wouldMeet 5 = .ok (.invokevirtual 85, 3) := by decide +kernel
theorem dL_wouldMeet_8 : decode cL_wouldMeet 8 = .ok (.i2l, 1) := by decide +kernel
theorem dL_wouldMeet_9 : decode cL_wouldMeet 9 = .ok (.lastore, 1) := by decide +kernel
theorem dL_wouldMeet_10 : decode cL_wouldMeet 10 = .ok (.goto 7, 3) := by decide +kernel
theorem dL_wouldMeet_13 : decode cL_wouldMeet 13 = .ok (.astore 4, 2) := by decide +kernel
theorem dL_wouldMeet_15 : decode cL_wouldMeet 15 = .ok (.iconst 1, 1) := by decide +kernel
theorem dL_wouldMeet_16 : decode cL_wouldMeet 16 = .ok (.ireturn, 1) := by decide +kernel
theorem dL_wouldMeet_17 : decode cL_wouldMeet 17 = .ok (.iconst 0, 1) := by decide +kernel
theorem dL_wouldMeet_18 : decode cL_wouldMeet 18 = .ok (.ireturn, 1) := by decide +kernel
theorem dL_best_0 : decode cL_best 0 = .ok (.aload_n 2, 1) := by decide +kernel
theorem dL_best_1 : decode cL_best 1 = .ok (.iconst 0, 1) := by decide +kernel
theorem dL_best_2 : decode cL_best 2 = .ok (.aload_n 0, 1) := by decide +kernel
theorem dL_best_3 : decode cL_best 3 = .ok (.iload_n 1, 1) := by decide +kernel
theorem dL_best_4 : decode cL_best 4 = .ok (.invokevirtual 88, 3) := by decide +kernel
theorem dL_best_7 : decode cL_best 7 = .ok (.i2l, 1) := by decide +kernel
theorem dL_best_8 : decode cL_best 8 = .ok (.lastore, 1) := by decide +kernel
theorem dL_best_9 : decode cL_best 9 = .ok (.goto 6, 3) := by decide +kernel
theorem dL_best_12 : decode cL_best 12 = .ok (.astore_n 3, 1) := by decide +kernel
theorem dL_best_13 : decode cL_best 13 = .ok (.iconst 1, 1) := by decide +kernel
theorem dL_best_14 : decode cL_best 14 = .ok (.ireturn, 1) := by decide +kernel
theorem dL_best_15 : decode cL_best 15 = .ok (.iconst 0, 1) := by decide +kernel
theorem dL_best_16 : decode cL_best 16 = .ok (.ireturn, 1) := by decide +kernel
theorem dL_law_0 : decode cL_law 0 = .ok (.new 8, 3) := by decide +kernel
theorem dL_law_3 : decode cL_law 3 = .ok (.dup, 1) := by decide +kernel
theorem dL_law_4 : decode cL_law 4 = .ok (.invokespecial 91, 3) := by decide +kernel
theorem dL_law_7 : decode cL_law 7 = .ok (.astore_n 1, 1) := by decide +kernel
theorem dL_law_8 : decode cL_law 8 = .ok (.new 92, 3) := by decide +kernel
theorem dL_law_11 : decode cL_law 11 = .ok (.dup, 1) := by decide +kernel
theorem dL_law_12 : decode cL_law 12 = .ok (.invokespecial 94, 3) := by decide +kernel
theorem dL_law_15 : decode cL_law 15 = .ok (.astore_n 2, 1) := by decide +kernel
theorem dL_law_16 : decode cL_law 16 = .ok (.iconst 1, 1) := by decide +kernel
theorem dL_law_17 : decode cL_law 17 = .ok (.newarray .long, 2) := by decide +kernel
theorem dL_law_19 : decode cL_law 19 = .ok (.astore_n 3, 1) := by decide +kernel
theorem dL_law_20 : decode cL_law 20 = .ok (.iconst 1, 1) := by decide +kernel
theorem dL_law_21 : decode cL_law 21 = .ok (.newarray .double, 2) := by decide +kernel
theorem dL_law_23 : decode cL_law 23 = .ok (.astore 4, 2) := by decide +kernel
theorem dL_law_25 : decode cL_law 25 = .ok (.iconst 0, 1) := by decide +kernel
theorem dL_law_26 : decode cL_law 26 = .ok (.istore 5, 2) := by decide +kernel
theorem dL_law_28 : decode cL_law 28 = .ok (.iload 5, 2) := by decide +kernel
theorem dL_law_30 : decode cL_law 30 = .ok (.aload_n 0, 1) := by decide +kernel
theorem dL_law_31 : decode cL_law 31 = .ok (.arraylength, 1) := by decide +kernel
theorem dL_law_32 : decode cL_law 32 = .ok (.bipush 6, 2) := by decide +kernel
theorem dL_law_34 : decode cL_law 34 = .ok (.isub, 1) := by decide +kernel
theorem dL_law_35 : decode cL_law 35 = .ok (.if_icmp .gt 1880, 3) := by decide +kernel
theorem dL_law_38 : decode cL_law 38 = .ok (.aload_n 0, 1) := by decide +kernel
theorem dL_law_39 : decode cL_law 39 = .ok (.iload 5, 2) := by decide +kernel
theorem dL_law_41 : decode cL_law 41 = .ok (.iaload, 1) := by decide +kernel
theorem dL_law_42 : decode cL_law 42 = .ok (.bipush 31, 2) := by decide +kernel
theorem dL_law_44 : decode cL_law 44 = .ok (.iand, 1) := by decide +kernel
theorem dL_law_45 : decode cL_law 45 = .ok (.tableswitch 1864 0 26 #[123, 191, 259, 327, 395, 451, 507, 587, 667, 680, 748, 789, 802, 870, 947, 1052, 1108, 1176, 1253, 1337, 1393, 1449, 1590, 1670, 1726, 1794, 1850], 123) := by decide +kernel
theorem dL_law_168 : decode cL_law 168 = .ok (.aload_n 1, 1) := by decide +kernel
theorem dL_law_169 : decode cL_law 169 = .ok (.aload_n 0, 1) := by decide +kernel
theorem dL_law_170 : decode cL_law 170 = .ok (.iload 5, 2) := by decide +kernel
theorem dL_law_172 : decode cL_law 172 = .ok (.iconst 1, 1) := by decide +kernel
theorem dL_law_173 : decode cL_law 173 = .ok (.iadd, 1) := by decide +kernel
theorem dL_law_174 : decode cL_law 174 = .ok (.iaload, 1) := by decide +kernel
theorem dL_law_175 : decode cL_law 175 = .ok (.aload_n 0, 1) := by decide +kernel
theorem dL_law_176 : decode cL_law 176 = .ok (.iload 5, 2) := by decide +kernel
theorem dL_law_178 : decode cL_law 178 = .ok (.iconst 2, 1) := by decide +kernel
theorem dL_law_179 : decode cL_law 179 = .ok (.iadd, 1) := by decide +kernel
theorem dL_law_180 : decode cL_law 180 = .ok (.iaload, 1) := by decide +kernel
theorem dL_law_181 : decode cL_law 181 = .ok (.aload_n 3, 1) := by decide +kernel
theorem dL_law_182 : decode cL_law 182 = .ok (.invokestatic 95, 3) := by decide +kernel
theorem dL_law_185 : decode cL_law 185 = .ok (.istore 6, 2) := by decide +kernel
theorem dL_law_187 : decode cL_law 187 = .ok (.aload_n 2, 1) := by decide +kernel
theorem dL_law_188 : decode cL_law 188 = .ok (.aload_n 0, 1) := by decide +kernel
theorem dL_law_189 : decode cL_law 189 = .ok (.iload 5, 2) := by decide +kernel
theorem dL_law_191 : decode cL_law 191 = .ok (.iconst 1, 1) := by decide +kernel
theorem dL_law_192 : decode cL_law 192 = .ok (.iadd, 1) := by decide +kernel
theorem dL_law_193 : decode cL_law 193 = .ok (.iaload, 1) := by decide +kernel
theorem dL_law_194 : decode cL_law 194 = .ok (.aload_n 0, 1) := by decide +kernel
theorem dL_law_195 : decode cL_law 195 = .ok (.iload 5, 2) := by decide +kernel
theorem dL_law_197 : decode cL_law 197 = .ok (.iconst 2, 1) := by decide +kernel
theorem dL_law_198 : decode cL_law 198 = .ok (.iadd, 1) := by decide +kernel
theorem dL_law_199 : decode cL_law 199 = .ok (.iaload, 1) := by decide +kernel
theorem dL_law_200 : decode cL_law 200 = .ok (.invokevirtual 100, 3) := by decide +kernel
theorem dL_law_203 : decode cL_law 203 = .ok (.istore 7, 2) := by decide +kernel
theorem dL_law_205 : decode cL_law 205 = .ok (.aload_n 2, 1) := by decide +kernel
theorem dL_law_206 : decode cL_law 206 = .ok (.invokevirtual 101, 3) := by decide +kernel
theorem dL_law_209 : decode cL_law 209 = .ok (.iload 6, 2) := by decide +kernel
theorem dL_law_211 : decode cL_law 211 = .ok (.if_icmp .eq 5, 3) := by decide +kernel
theorem dL_law_214 : decode cL_law 214 = .ok (.iconst 0, 1) := by decide +kernel
theorem dL_law_215 : decode cL_law 215 = .ok (.ireturn, 1) := by decide +kernel
theorem dL_law_216 : decode cL_law 216 = .ok (.iload 6, 2) := by decide +kernel
theorem dL_law_218 : decode cL_law 218 = .ok (.ifCond .ne 15, 3) := by decide +kernel
theorem dL_law_221 : decode cL_law 221 = .ok (.aload_n 3, 1) := by decide +kernel
theorem dL_law_222 : decode cL_law 222 = .ok (.iconst 0, 1) := by decide +kernel
theorem dL_law_223 : decode cL_law 223 = .ok (.laload, 1) := by decide +kernel
theorem dL_law_224 : decode cL_law 224 = .ok (.iload 7, 2) := by decide +kernel
theorem dL_law_226 : decode cL_law 226 = .ok (.i2l, 1) := by decide +kernel
theorem dL_law_227 : decode cL_law 227 = .ok (.lcmp, 1) := by decide +kernel
theorem dL_law_228 : decode cL_law 228 = .ok (.ifCond .eq 5, 3) := by decide +kernel
theorem dL_law_231 : decode cL_law 231 = .ok (.iconst 0, 1) := by decide +kernel
theorem dL_law_232 : decode cL_law 232 = .ok (.ireturn, 1) := by decide +kernel
theorem dL_law_233 : decode cL_law 233 = .ok (.goto 1676, 3) := by decide +kernel
theorem dL_law_236 : decode cL_law 236 = .ok (.aload_n 1, 1) := by decide +kernel
theorem dL_law_237 : decode cL_law 237 = .ok (.aload_n 0, 1) := by decide +kernel
theorem dL_law_238 : decode cL_law 238 = .ok (.iload 5, 2) := by decide +kernel
theorem dL_law_240 : decode cL_law 240 = .ok (.iconst 1, 1) := by decide +kernel
theorem dL_law_241 : decode cL_law 241 = .ok (.iadd, 1) := by decide +kernel
theorem dL_law_242 : decode cL_law 242 = .ok (.iaload, 1) := by decide +kernel
theorem dL_law_243 : decode cL_law 243 = .ok (.aload_n 0, 1) := by decide +kernel
theorem dL_law_244 : decode cL_law 244 = .ok (.iload 5, 2) := by decide +kernel
theorem dL_law_246 : decode cL_law 246 = .ok (.iconst 2, 1) := by decide +kernel
theorem dL_law_247 : decode cL_law 247 = .ok (.iadd, 1) := by decide +kernel
theorem dL_law_248 : decode cL_law 248 = .ok (.iaload, 1) := by decide +kernel
theorem dL_law_249 : decode cL_law 249 = .ok (.aload_n 3, 1) := by decide +kernel
theorem dL_law_250 : decode cL_law 250 = .ok (.invokestatic 105, 3) := by decide +kernel
theorem dL_law_253 : decode cL_law 253 = .ok (.istore 6, 2) := by decide +kernel
theorem dL_law_255 : decode cL_law 255 = .ok (.aload_n 2, 1) := by decide +kernel
theorem dL_law_256 : decode cL_law 256 = .ok (.aload_n 0, 1) := by decide +kernel
theorem dL_law_257 : decode cL_law 257 = .ok (.iload 5, 2) := by decide +kernel
theorem dL_law_259 : decode cL_law 259 = .ok (.iconst 1, 1) := by decide +kernel
theorem dL_law_260 : decode cL_law 260 = .ok (.iadd, 1) := by decide +kernel
theorem dL_law_261 : decode cL_law 261 = .ok (.iaload, 1) := by decide +kernel
theorem dL_law_262 : decode cL_law 262 = .ok (.aload_n 0, 1) := by decide +kernel
theorem dL_law_263 : decode cL_law 263 = .ok (.iload 5, 2) := by decide +kernel
theorem dL_law_265 : decode cL_law 265 = .ok (.iconst 2, 1) := by decide +kernel
theorem dL_law_266 : decode cL_law 266 = .ok (.iadd, 1) := by decide +kernel
theorem dL_law_267 : decode cL_law 267 = .ok (.iaload, 1) := by decide +kernel
theorem dL_law_268 : decode cL_law 268 = .ok (.invokevirtual 107, 3) := by decide +kernel
theorem dL_law_271 : decode cL_law 271 = .ok (.istore 7, 2) := by decide +kernel
theorem dL_law_273 : decode cL_law 273 = .ok (.aload_n 2, 1) := by decide +kernel
theorem dL_law_274 : decode cL_law 274 = .ok (.invokevirtual 101, 3) := by decide +kernel
theorem dL_law_277 : decode cL_law 277 = .ok (.iload 6, 2) := by decide +kernel
theorem dL_law_279 : decode cL_law 279 = .ok (.if_icmp .eq 5, 3) := by decide +kernel
theorem dL_law_282 : decode cL_law 282 = .ok (.iconst 0, 1) := by decide +kernel
theorem dL_law_283 : decode cL_law 283 = .ok (.ireturn, 1) := by decide +kernel
theorem dL_law_284 : decode cL_law 284 = .ok (.iload 6, 2) := by decide +kernel
theorem dL_law_286 : decode cL_law 286 = .ok (.ifCond .ne 15, 3) := by decide +kernel
theorem dL_law_289 : decode cL_law 289 = .ok (.aload_n 3, 1) := by decide +kernel
theorem dL_law_290 : decode cL_law 290 = .ok (.iconst 0, 1) := by decide +kernel
theorem dL_law_291 : decode cL_law 291 = .ok (.laload, 1) := by decide +kernel
theorem dL_law_292 : decode cL_law 292 = .ok (.iload 7, 2) := by decide +kernel
theorem dL_law_294 : decode cL_law 294 = .ok (.i2l, 1) := by decide +kernel
theorem dL_law_295 : decode cL_law 295 = .ok (.lcmp, 1) := by decide +kernel
theorem dL_law_296 : decode cL_law 296 = .ok (.ifCond .eq 5, 3) := by decide +kernel
theorem dL_law_299 : decode cL_law 299 = .ok (.iconst 0, 1) := by decide +kernel
theorem dL_law_300 : decode cL_law 300 = .ok (.ireturn, 1) := by decide +kernel
theorem dL_law_301 : decode cL_law 301 = .ok (.goto 1608, 3) := by decide +kernel
theorem dL_law_304 : decode cL_law 304 = .ok (.aload_n 1, 1) := by decide +kernel
theorem dL_law_305 : decode cL_law 305 = .ok (.aload_n 0, 1) := by decide +kernel
theorem dL_law_306 : decode cL_law 306 = .ok (.iload 5, 2) := by decide +kernel
theorem dL_law_308 : decode cL_law 308 = .ok (.iconst 1, 1) := by decide +kernel
theorem dL_law_309 : decode cL_law 309 = .ok (.iadd, 1) := by decide +kernel
theorem dL_law_310 : decode cL_law 310 = .ok (.iaload, 1) := by decide +kernel
theorem dL_law_311 : decode cL_law 311 = .ok (.aload_n 0, 1) := by decide +kernel
theorem dL_law_312 : decode cL_law 312 = .ok (.iload 5, 2) := by decide +kernel
theorem dL_law_314 : decode cL_law 314 = .ok (.iconst 2, 1) := by decide +kernel
theorem dL_law_315 : decode cL_law 315 = .ok (.iadd, 1) := by decide +kernel
theorem dL_law_316 : decode cL_law 316 = .ok (.iaload, 1) := by decide +kernel
theorem dL_law_317 : decode cL_law 317 = .ok (.aload_n 3, 1) := by decide +kernel
theorem dL_law_318 : decode cL_law 318 = .ok (.invokestatic 108, 3) := by decide +kernel
theorem dL_law_321 : decode cL_law 321 = .ok (.istore 6, 2) := by decide +kernel
theorem dL_law_323 : decode cL_law 323 = .ok (.aload_n 2, 1) := by decide +kernel
theorem dL_law_324 : decode cL_law 324 = .ok (.aload_n 0, 1) := by decide +kernel
theorem dL_law_325 : decode cL_law 325 = .ok (.iload 5, 2) := by decide +kernel
theorem dL_law_327 : decode cL_law 327 = .ok (.iconst 1, 1) := by decide +kernel
theorem dL_law_328 : decode cL_law 328 = .ok (.iadd, 1) := by decide +kernel
theorem dL_law_329 : decode cL_law 329 = .ok (.iaload, 1) := by decide +kernel
theorem dL_law_330 : decode cL_law 330 = .ok (.aload_n 0, 1) := by decide +kernel
theorem dL_law_331 : decode cL_law 331 = .ok (.iload 5, 2) := by decide +kernel
theorem dL_law_333 : decode cL_law 333 = .ok (.iconst 2, 1) := by decide +kernel
theorem dL_law_334 : decode cL_law 334 = .ok (.iadd, 1) := by decide +kernel
theorem dL_law_335 : decode cL_law 335 = .ok (.iaload, 1) := by decide +kernel
theorem dL_law_336 : decode cL_law 336 = .ok (.invokevirtual 110, 3) := by decide +kernel
theorem dL_law_339 : decode cL_law 339 = .ok (.istore 7, 2) := by decide +kernel
theorem dL_law_341 : decode cL_law 341 = .ok (.aload_n 2, 1) := by decide +kernel
theorem dL_law_342 : decode cL_law 342 = .ok (.invokevirtual 101, 3) := by decide +kernel
theorem dL_law_345 : decode cL_law 345 = .ok (.iload 6, 2) := by decide +kernel
theorem dL_law_347 : decode cL_law 347 = .ok (.if_icmp .eq 5, 3) := by decide +kernel
theorem dL_law_350 : decode cL_law 350 = .ok (.iconst 0, 1) := by decide +kernel
theorem dL_law_351 : decode cL_law 351 = .ok (.ireturn, 1) := by decide +kernel
theorem dL_law_352 : decode cL_law 352 = .ok (.iload 6, 2) := by decide +kernel
theorem dL_law_354 : decode cL_law 354 = .ok (.ifCond .ne 15, 3) := by decide +kernel
theorem dL_law_357 : decode cL_law 357 = .ok (.aload_n 3, 1) := by decide +kernel
theorem dL_law_358 : decode cL_law 358 = .ok (.iconst 0, 1) := by decide +kernel
theorem dL_law_359 : decode cL_law 359 = .ok (.laload, 1) := by decide +kernel
theorem dL_law_360 : decode cL_law 360 = .ok (.iload 7, 2) := by decide +kernel
theorem dL_law_362 : decode cL_law 362 = .ok (.i2l, 1) := by decide +kernel
theorem dL_law_363 : decode cL_law 363 = .ok (.lcmp, 1) := by decide +kernel
theorem dL_law_364 : decode cL_law 364 = .ok (.ifCond .eq 5, 3) := by decide +kernel
theorem dL_law_367 : decode cL_law 367 = .ok (.iconst 0, 1) := by decide +kernel
theorem dL_law_368 : decode cL_law 368 = .ok (.ireturn, 1) := by decide +kernel
theorem dL_law_369 : decode cL_law 369 = .ok (.goto 1540, 3) := by decide +kernel
theorem dL_law_372 : decode cL_law 372 = .ok (.aload_n 1, 1) := by decide +kernel
theorem dL_law_373 : decode cL_law 373 = .ok (.aload_n 0, 1) := by decide +kernel
theorem dL_law_374 : decode cL_law 374 = .ok (.iload 5, 2) := by decide +kernel
theorem dL_law_376 : decode cL_law 376 = .ok (.iconst 1, 1) := by decide +kernel
theorem dL_law_377 : decode cL_law 377 = .ok (.iadd, 1) := by decide +kernel
theorem dL_law_378 : decode cL_law 378 = .ok (.iaload, 1) := by decide +kernel
theorem dL_law_379 : decode cL_law 379 = .ok (.aload_n 0, 1) := by decide +kernel
theorem dL_law_380 : decode cL_law 380 = .ok (.iload 5, 2) := by decide +kernel
theorem dL_law_382 : decode cL_law 382 = .ok (.iconst 2, 1) := by decide +kernel
theorem dL_law_383 : decode cL_law 383 = .ok (.iadd, 1) := by decide +kernel
theorem dL_law_384 : decode cL_law 384 = .ok (.iaload, 1) := by decide +kernel
theorem dL_law_385 : decode cL_law 385 = .ok (.aload_n 3, 1) := by decide +kernel
theorem dL_law_386 : decode cL_law 386 = .ok (.invokestatic 111, 3) := by decide +kernel
theorem dL_law_389 : decode cL_law 389 = .ok (.istore 6, 2) := by decide +kernel
theorem dL_law_391 : decode cL_law 391 = .ok (.aload_n 2, 1) := by decide +kernel
theorem dL_law_392 : decode cL_law 392 = .ok (.aload_n 0, 1) := by decide +kernel
theorem dL_law_393 : decode cL_law 393 = .ok (.iload 5, 2) := by decide +kernel
theorem dL_law_395 : decode cL_law 395 = .ok (.iconst 1, 1) := by decide +kernel
theorem dL_law_396 : decode cL_law 396 = .ok (.iadd, 1) := by decide +kernel
theorem dL_law_397 : decode cL_law 397 = .ok (.iaload, 1) := by decide +kernel
theorem dL_law_398 : decode cL_law 398 = .ok (.aload_n 0, 1) := by decide +kernel
theorem dL_law_399 : decode cL_law 399 = .ok (.iload 5, 2) := by decide +kernel
theorem dL_law_401 : decode cL_law 401 = .ok (.iconst 2, 1) := by decide +kernel
theorem dL_law_402 : decode cL_law 402 = .ok (.iadd, 1) := by decide +kernel
theorem dL_law_403 : decode cL_law 403 = .ok (.iaload, 1) := by decide +kernel
theorem dL_law_404 : decode cL_law 404 = .ok (.invokevirtual 113, 3) := by decide +kernel
theorem dL_law_407 : decode cL_law 407 = .ok (.istore 7, 2) := by decide +kernel
theorem dL_law_409 : decode cL_law 409 = .ok (.aload_n 2, 1) := by decide +kernel
theorem dL_law_410 : decode cL_law 410 = .ok (.invokevirtual 101, 3) := by decide +kernel
theorem dL_law_413 : decode cL_law 413 = .ok (.iload 6, 2) := by decide +kernel
theorem dL_law_415 : decode cL_law 415 = .ok (.if_icmp .eq 5, 3) := by decide +kernel
theorem dL_law_418 : decode cL_law 418 = .ok (.iconst 0, 1) := by decide +kernel
theorem dL_law_419 : decode cL_law 419 = .ok (.ireturn, 1) := by decide +kernel
theorem dL_law_420 : decode cL_law 420 = .ok (.iload 6, 2) := by decide +kernel
theorem dL_law_422 : decode cL_law 422 = .ok (.ifCond .ne 15, 3) := by decide +kernel
theorem dL_law_425 : decode cL_law 425 = .ok (.aload_n 3, 1) := by decide +kernel
theorem dL_law_426 : decode cL_law 426 = .ok (.iconst 0, 1) := by decide +kernel
theorem dL_law_427 : decode cL_law 427 = .ok (.laload, 1) := by decide +kernel
theorem dL_law_428 : decode cL_law 428 = .ok (.iload 7, 2) := by decide +kernel
theorem dL_law_430 : decode cL_law 430 = .ok (.i2l, 1) := by decide +kernel
theorem dL_law_431 : decode cL_law 431 = .ok (.lcmp, 1) := by decide +kernel
theorem dL_law_432 : decode cL_law 432 = .ok (.ifCond .eq 5, 3) := by decide +kernel
theorem dL_law_435 : decode cL_law 435 = .ok (.iconst 0, 1) := by decide +kernel
theorem dL_law_436 : decode cL_law 436 = .ok (.ireturn, 1) := by decide +kernel
theorem dL_law_437 : decode cL_law 437 = .ok (.goto 1472, 3) := by decide +kernel
theorem dL_law_440 : decode cL_law 440 = .ok (.aload_n 1, 1) := by decide +kernel
theorem dL_law_441 : decode cL_law 441 = .ok (.aload_n 0, 1) := by decide +kernel
theorem dL_law_442 : decode cL_law 442 = .ok (.iload 5, 2) := by decide +kernel
theorem dL_law_444 : decode cL_law 444 = .ok (.iconst 1, 1) := by decide +kernel
theorem dL_law_445 : decode cL_law 445 = .ok (.iadd, 1) := by decide +kernel
theorem dL_law_446 : decode cL_law 446 = .ok (.iaload, 1) := by decide +kernel
theorem dL_law_447 : decode cL_law 447 = .ok (.aload_n 3, 1) := by decide +kernel
theorem dL_law_448 : decode cL_law 448 = .ok (.invokestatic 114, 3) := by decide +kernel
theorem dL_law_451 : decode cL_law 451 = .ok (.istore 6, 2) := by decide +kernel
theorem dL_law_453 : decode cL_law 453 = .ok (.aload_n 2, 1) := by decide +kernel
theorem dL_law_454 : decode cL_law 454 = .ok (.aload_n 0, 1) := by decide +kernel
theorem dL_law_455 : decode cL_law 455 = .ok (.iload 5, 2) := by decide +kernel
theorem dL_law_457 : decode cL_law 457 = .ok (.iconst 1, 1) := by decide +kernel
theorem dL_law_458 : decode cL_law 458 = .ok (.iadd, 1) := by decide +kernel
theorem dL_law_459 : decode cL_law 459 = .ok (.iaload, 1) := by decide +kernel
theorem dL_law_460 : decode cL_law 460 = .ok (.invokevirtual 117, 3) := by decide +kernel
theorem dL_law_463 : decode cL_law 463 = .ok (.istore 7, 2) := by decide +kernel
theorem dL_law_465 : decode cL_law 465 = .ok (.aload_n 2, 1) := by decide +kernel
theorem dL_law_466 : decode cL_law 466 = .ok (.invokevirtual 101, 3) := by decide +kernel
theorem dL_law_469 : decode cL_law 469 = .ok (.iload 6, 2) := by decide +kernel
theorem dL_law_471 : decode cL_law 471 = .ok (.if_icmp .eq 5, 3) := by decide +kernel
theorem dL_law_474 : decode cL_law 474 = .ok (.iconst 0, 1) := by decide +kernel
theorem dL_law_475 : decode cL_law 475 = .ok (.ireturn, 1) := by decide +kernel
theorem dL_law_476 : decode cL_law 476 = .ok (.iload 6, 2) := by decide +kernel
theorem dL_law_478 : decode cL_law 478 = .ok (.ifCond .ne 15, 3) := by decide +kernel
theorem dL_law_481 : decode cL_law 481 = .ok (.aload_n 3, 1) := by decide +kernel
theorem dL_law_482 : decode cL_law 482 = .ok (.iconst 0, 1) := by decide +kernel
theorem dL_law_483 : decode cL_law 483 = .ok (.laload, 1) := by decide +kernel
theorem dL_law_484 : decode cL_law 484 = .ok (.iload 7, 2) := by decide +kernel
theorem dL_law_486 : decode cL_law 486 = .ok (.i2l, 1) := by decide +kernel
theorem dL_law_487 : decode cL_law 487 = .ok (.lcmp, 1) := by decide +kernel
theorem dL_law_488 : decode cL_law 488 = .ok (.ifCond .eq 5, 3) := by decide +kernel
theorem dL_law_491 : decode cL_law 491 = .ok (.iconst 0, 1) := by decide +kernel
theorem dL_law_492 : decode cL_law 492 = .ok (.ireturn, 1) := by decide +kernel
theorem dL_law_493 : decode cL_law 493 = .ok (.goto 1416, 3) := by decide +kernel
theorem dL_law_496 : decode cL_law 496 = .ok (.aload_n 1, 1) := by decide +kernel
theorem dL_law_497 : decode cL_law 497 = .ok (.aload_n 0, 1) := by decide +kernel
theorem dL_law_498 : decode cL_law 498 = .ok (.iload 5, 2) := by decide +kernel
theorem dL_law_500 : decode cL_law 500 = .ok (.iconst 1, 1) := by decide +kernel
theorem dL_law_501 : decode cL_law 501 = .ok (.iadd, 1) := by decide +kernel
theorem dL_law_502 : decode cL_law 502 = .ok (.iaload, 1) := by decide +kernel
theorem dL_law_503 : decode cL_law 503 = .ok (.aload_n 3, 1) := by decide +kernel
theorem dL_law_504 : decode cL_law 504 = .ok (.invokestatic 118, 3) := by decide +kernel
theorem dL_law_507 : decode cL_law 507 = .ok (.istore 6, 2) := by decide +kernel
theorem dL_law_509 : decode cL_law 509 = .ok (.aload_n 2, 1) := by decide +kernel
theorem dL_law_510 : decode cL_law 510 = .ok (.aload_n 0, 1) := by decide +kernel
theorem dL_law_511 : decode cL_law 511 = .ok (.iload 5, 2) := by decide +kernel
theorem dL_law_513 : decode cL_law 513 = .ok (.iconst 1, 1) := by decide +kernel
theorem dL_law_514 : decode cL_law 514 = .ok (.iadd, 1) := by decide +kernel
theorem dL_law_515 : decode cL_law 515 = .ok (.iaload, 1) := by decide +kernel
theorem dL_law_516 : decode cL_law 516 = .ok (.invokevirtual 120, 3) := by decide +kernel
theorem dL_law_519 : decode cL_law 519 = .ok (.istore 7, 2) := by decide +kernel
theorem dL_law_521 : decode cL_law 521 = .ok (.aload_n 2, 1) := by decide +kernel
theorem dL_law_522 : decode cL_law 522 = .ok (.invokevirtual 101, 3) := by decide +kernel
theorem dL_law_525 : decode cL_law 525 = .ok (.iload 6, 2) := by decide +kernel
theorem dL_law_527 : decode cL_law 527 = .ok (.if_icmp .eq 5, 3) := by decide +kernel
theorem dL_law_530 : decode cL_law 530 = .ok (.iconst 0, 1) := by decide +kernel
theorem dL_law_531 : decode cL_law 531 = .ok (.ireturn, 1) := by decide +kernel
theorem dL_law_532 : decode cL_law 532 = .ok (.iload 6, 2) := by decide +kernel
theorem dL_law_534 : decode cL_law 534 = .ok (.ifCond .ne 15, 3) := by decide +kernel
theorem dL_law_537 : decode cL_law 537 = .ok (.aload_n 3, 1) := by decide +kernel
theorem dL_law_538 : decode cL_law 538 = .ok (.iconst 0, 1) := by decide +kernel
theorem dL_law_539 : decode cL_law 539 = .ok (.laload, 1) := by decide +kernel
theorem dL_law_540 : decode cL_law 540 = .ok (.iload 7, 2) := by decide +kernel
theorem dL_law_542 : decode cL_law 542 = .ok (.i2l, 1) := by decide +kernel
theorem dL_law_543 : decode cL_law 543 = .ok (.lcmp, 1) := by decide +kernel
theorem dL_law_544 : decode cL_law 544 = .ok (.ifCond .eq 5, 3) := by decide +kernel
theorem dL_law_547 : decode cL_law 547 = .ok (.iconst 0, 1) := by decide +kernel
theorem dL_law_548 : decode cL_law 548 = .ok (.ireturn, 1) := by decide +kernel
theorem dL_law_549 : decode cL_law 549 = .ok (.goto 1360, 3) := by decide +kernel
theorem dL_law_552 : decode cL_law 552 = .ok (.aload_n 1, 1) := by decide +kernel
theorem dL_law_553 : decode cL_law 553 = .ok (.aload_n 0, 1) := by decide +kernel
theorem dL_law_554 : decode cL_law 554 = .ok (.iload 5, 2) := by decide +kernel
theorem dL_law_556 : decode cL_law 556 = .ok (.iconst 1, 1) := by decide +kernel
theorem dL_law_557 : decode cL_law 557 = .ok (.iadd, 1) := by decide +kernel
theorem dL_law_558 : decode cL_law 558 = .ok (.iaload, 1) := by decide +kernel
theorem dL_law_559 : decode cL_law 559 = .ok (.aload_n 0, 1) := by decide +kernel
theorem dL_law_560 : decode cL_law 560 = .ok (.iload 5, 2) := by decide +kernel
theorem dL_law_562 : decode cL_law 562 = .ok (.iconst 2, 1) := by decide +kernel
theorem dL_law_563 : decode cL_law 563 = .ok (.iadd, 1) := by decide +kernel
theorem dL_law_564 : decode cL_law 564 = .ok (.iaload, 1) := by decide +kernel
theorem dL_law_565 : decode cL_law 565 = .ok (.aload_n 0, 1) := by decide +kernel
theorem dL_law_566 : decode cL_law 566 = .ok (.iload 5, 2) := by decide +kernel
theorem dL_law_568 : decode cL_law 568 = .ok (.iconst 3, 1) := by decide +kernel
theorem dL_law_569 : decode cL_law 569 = .ok (.iadd, 1) := by decide +kernel
theorem dL_law_570 : decode cL_law 570 = .ok (.iaload, 1) := by decide +kernel
theorem dL_law_571 : decode cL_law 571 = .ok (.aload_n 3, 1) := by decide +kernel
theorem dL_law_572 : decode cL_law 572 = .ok (.invokestatic 121, 3) := by decide +kernel
theorem dL_law_575 : decode cL_law 575 = .ok (.istore 6, 2) := by decide +kernel
theorem dL_law_577 : decode cL_law 577 = .ok (.aload_n 2, 1) := by decide +kernel
theorem dL_law_578 : decode cL_law 578 = .ok (.aload_n 0, 1) := by decide +kernel
theorem dL_law_579 : decode cL_law 579 = .ok (.iload 5, 2) := by decide +kernel
theorem dL_law_581 : decode cL_law 581 = .ok (.iconst 1, 1) := by decide +kernel
theorem dL_law_582 : decode cL_law 582 = .ok (.iadd, 1) := by decide +kernel
theorem dL_law_583 : decode cL_law 583 = .ok (.iaload, 1) := by decide +kernel
theorem dL_law_584 : decode cL_law 584 = .ok (.aload_n 0, 1) := by decide +kernel
theorem dL_law_585 : decode cL_law 585 = .ok (.iload 5, 2) := by decide +kernel
theorem dL_law_587 : decode cL_law 587 = .ok (.iconst 2, 1) := by decide +kernel
theorem dL_law_588 : decode cL_law 588 = .ok (.iadd, 1) := by decide +kernel
theorem dL_law_589 : decode cL_law 589 = .ok (.iaload, 1) := by decide +kernel
theorem dL_law_590 : decode cL_law 590 = .ok (.aload_n 0, 1) := by decide +kernel
theorem dL_law_591 : decode cL_law 591 = .ok (.iload 5, 2) := by decide +kernel
theorem dL_law_593 : decode cL_law 593 = .ok (.iconst 3, 1) := by decide +kernel
theorem dL_law_594 : decode cL_law 594 = .ok (.iadd, 1) := by decide +kernel
theorem dL_law_595 : decode cL_law 595 = .ok (.iaload, 1) := by decide +kernel
theorem dL_law_596 : decode cL_law 596 = .ok (.invokevirtual 124, 3) := by decide +kernel
theorem dL_law_599 : decode cL_law 599 = .ok (.istore 7, 2) := by decide +kernel
theorem dL_law_601 : decode cL_law 601 = .ok (.aload_n 2, 1) := by decide +kernel
theorem dL_law_602 : decode cL_law 602 = .ok (.invokevirtual 101, 3) := by decide +kernel
theorem dL_law_605 : decode cL_law 605 = .ok (.iload 6, 2) := by decide +kernel
theorem dL_law_607 : decode cL_law 607 = .ok (.if_icmp .eq 5, 3) := by decide +kernel
theorem dL_law_610 : decode cL_law 610 = .ok (.iconst 0, 1) := by decide +kernel
theorem dL_law_611 : decode cL_law 611 = .ok (.ireturn, 1) := by decide +kernel
theorem dL_law_612 : decode cL_law 612 = .ok (.iload 6, 2) := by decide +kernel
theorem dL_law_614 : decode cL_law 614 = .ok (.ifCond .ne 15, 3) := by decide +kernel
theorem dL_law_617 : decode cL_law 617 = .ok (.aload_n 3, 1) := by decide +kernel
theorem dL_law_618 : decode cL_law 618 = .ok (.iconst 0, 1) := by decide +kernel
theorem dL_law_619 : decode cL_law 619 = .ok (.laload, 1) := by decide +kernel
theorem dL_law_620 : decode cL_law 620 = .ok (.iload 7, 2) := by decide +kernel
theorem dL_law_622 : decode cL_law 622 = .ok (.i2l, 1) := by decide +kernel
theorem dL_law_623 : decode cL_law 623 = .ok (.lcmp, 1) := by decide +kernel
theorem dL_law_624 : decode cL_law 624 = .ok (.ifCond .eq 5, 3) := by decide +kernel
theorem dL_law_627 : decode cL_law 627 = .ok (.iconst 0, 1) := by decide +kernel
theorem dL_law_628 : decode cL_law 628 = .ok (.ireturn, 1) := by decide +kernel
theorem dL_law_629 : decode cL_law 629 = .ok (.goto 1280, 3) := by decide +kernel
theorem dL_law_632 : decode cL_law 632 = .ok (.aload_n 1, 1) := by decide +kernel
theorem dL_law_633 : decode cL_law 633 = .ok (.aload_n 0, 1) := by decide +kernel
theorem dL_law_634 : decode cL_law 634 = .ok (.iload 5, 2) := by decide +kernel
theorem dL_law_636 : decode cL_law 636 = .ok (.iconst 1, 1) := by decide +kernel
theorem dL_law_637 : decode cL_law 637 = .ok (.iadd, 1) := by decide +kernel
theorem dL_law_638 : decode cL_law 638 = .ok (.iaload, 1) := by decide +kernel
theorem dL_law_639 : decode cL_law 639 = .ok (.aload_n 0, 1) := by decide +kernel
theorem dL_law_640 : decode cL_law 640 = .ok (.iload 5, 2) := by decide +kernel
theorem dL_law_642 : decode cL_law 642 = .ok (.iconst 2, 1) := by decide +kernel
theorem dL_law_643 : decode cL_law 643 = .ok (.iadd, 1) := by decide +kernel
theorem dL_law_644 : decode cL_law 644 = .ok (.iaload, 1) := by decide +kernel
theorem dL_law_645 : decode cL_law 645 = .ok (.aload_n 0, 1) := by decide +kernel
theorem dL_law_646 : decode cL_law 646 = .ok (.iload 5, 2) := by decide +kernel
theorem dL_law_648 : decode cL_law 648 = .ok (.iconst 3, 1) := by decide +kernel
theorem dL_law_649 : decode cL_law 649 = .ok (.iadd, 1) := by decide +kernel
theorem dL_law_650 : decode cL_law 650 = .ok (.iaload, 1) := by decide +kernel
theorem dL_law_651 : decode cL_law 651 = .ok (.aload_n 3, 1) := by decide +kernel
theorem dL_law_652 : decode cL_law 652 = .ok (.invokestatic 125, 3) := by decide +kernel
theorem dL_law_655 : decode cL_law 655 = .ok (.istore 6, 2) := by decide +kernel
theorem dL_law_657 : decode cL_law 657 = .ok (.aload_n 2, 1) := by decide +kernel
theorem dL_law_658 : decode cL_law 658 = .ok (.aload_n 0, 1) := by decide +kernel
theorem dL_law_659 : decode cL_law 659 = .ok (.iload 5, 2) := by decide +kernel
theorem dL_law_661 : decode cL_law 661 = .ok (.iconst 1, 1) := by decide +kernel
theorem dL_law_662 : decode cL_law 662 = .ok (.iadd, 1) := by decide +kernel
theorem dL_law_663 : decode cL_law 663 = .ok (.iaload, 1) := by decide +kernel
theorem dL_law_664 : decode cL_law 664 = .ok (.aload_n 0, 1) := by decide +kernel
theorem dL_law_665 : decode cL_law 665 = .ok (.iload 5, 2) := by decide +kernel
theorem dL_law_667 : decode cL_law 667 = .ok (.iconst 2, 1) := by decide +kernel
theorem dL_law_668 : decode cL_law 668 = .ok (.iadd, 1) := by decide +kernel
theorem dL_law_669 : decode cL_law 669 = .ok (.iaload, 1) := by decide +kernel
theorem dL_law_670 : decode cL_law 670 = .ok (.aload_n 0, 1) := by decide +kernel
theorem dL_law_671 : decode cL_law 671 = .ok (.iload 5, 2) := by decide +kernel
theorem dL_law_673 : decode cL_law 673 = .ok (.iconst 3, 1) := by decide +kernel
theorem dL_law_674 : decode cL_law 674 = .ok (.iadd, 1) := by decide +kernel
theorem dL_law_675 : decode cL_law 675 = .ok (.iaload, 1) := by decide +kernel
theorem dL_law_676 : decode cL_law 676 = .ok (.invokevirtual 127, 3) := by decide +kernel
theorem dL_law_679 : decode cL_law 679 = .ok (.istore 7, 2) := by decide +kernel
theorem dL_law_681 : decode cL_law 681 = .ok (.aload_n 2, 1) := by decide +kernel
theorem dL_law_682 : decode cL_law 682 = .ok (.invokevirtual 101, 3) := by decide +kernel
theorem dL_law_685 : decode cL_law 685 = .ok (.iload 6, 2) := by decide +kernel
theorem dL_law_687 : decode cL_law 687 = .ok (.if_icmp .eq 5, 3) := by decide +kernel
theorem dL_law_690 : decode cL_law 690 = .ok (.iconst 0, 1) := by decide +kernel
theorem dL_law_691 : decode cL_law 691 = .ok (.ireturn, 1) := by decide +kernel
theorem dL_law_692 : decode cL_law 692 = .ok (.iload 6, 2) := by decide +kernel
theorem dL_law_694 : decode cL_law 694 = .ok (.ifCond .ne 15, 3) := by decide +kernel
theorem dL_law_697 : decode cL_law 697 = .ok (.aload_n 3, 1) := by decide +kernel
theorem dL_law_698 : decode cL_law 698 = .ok (.iconst 0, 1) := by decide +kernel
theorem dL_law_699 : decode cL_law 699 = .ok (.laload, 1) := by decide +kernel
theorem dL_law_700 : decode cL_law 700 = .ok (.iload 7, 2) := by decide +kernel
theorem dL_law_702 : decode cL_law 702 = .ok (.i2l, 1) := by decide +kernel
theorem dL_law_703 : decode cL_law 703 = .ok (.lcmp, 1) := by decide +kernel
theorem dL_law_704 : decode cL_law 704 = .ok (.ifCond .eq 5, 3) := by decide +kernel
theorem dL_law_707 : decode cL_law 707 = .ok (.iconst 0, 1) := by decide +kernel
theorem dL_law_708 : decode cL_law 708 = .ok (.ireturn, 1) := by decide +kernel
theorem dL_law_709 : decode cL_law 709 = .ok (.goto 1200, 3) := by decide +kernel
theorem dL_law_712 : decode cL_law 712 = .ok (.aload_n 1, 1) := by decide +kernel
theorem dL_law_713 : decode cL_law 713 = .ok (.invokevirtual 128, 3) := by decide +kernel
theorem dL_law_716 : decode cL_law 716 = .ok (.aload_n 2, 1) := by decide +kernel
theorem dL_law_717 : decode cL_law 717 = .ok (.invokevirtual 131, 3) := by decide +kernel
theorem dL_law_720 : decode cL_law 720 = .ok (.if_icmp .eq 1189, 3) := by decide +kernel
theorem dL_law_723 : decode cL_law 723 = .ok (.iconst 0, 1) := by decide +kernel
theorem dL_law_724 : decode cL_law 724 = .ok (.ireturn, 1) := by decide +kernel
theorem dL_law_725 : decode cL_law 725 = .ok (.aload_n 1, 1) := by decide +kernel
theorem dL_law_726 : decode cL_law 726 = .ok (.aload_n 0, 1) := by decide +kernel
theorem dL_law_727 : decode cL_law 727 = .ok (.iload 5, 2) := by decide +kernel
theorem dL_law_729 : decode cL_law 729 = .ok (.iconst 1, 1) := by decide +kernel
theorem dL_law_730 : decode cL_law 730 = .ok (.iadd, 1) := by decide +kernel
theorem dL_law_731 : decode cL_law 731 = .ok (.iaload, 1) := by decide +kernel
theorem dL_law_732 : decode cL_law 732 = .ok (.aload_n 0, 1) := by decide +kernel
theorem dL_law_733 : decode cL_law 733 = .ok (.iload 5, 2) := by decide +kernel
theorem dL_law_735 : decode cL_law 735 = .ok (.iconst 2, 1) := by decide +kernel
theorem dL_law_736 : decode cL_law 736 = .ok (.iadd, 1) := by decide +kernel
theorem dL_law_737 : decode cL_law 737 = .ok (.iaload, 1) := by decide +kernel
theorem dL_law_738 : decode cL_law 738 = .ok (.aload_n 3, 1) := by decide +kernel
theorem dL_law_739 : decode cL_law 739 = .ok (.invokestatic 132, 3) := by decide +kernel
theorem dL_law_742 : decode cL_law 742 = .ok (.istore 6, 2) := by decide +kernel
theorem dL_law_744 : decode cL_law 744 = .ok (.aload_n 2, 1) := by decide +kernel
theorem dL_law_745 : decode cL_law 745 = .ok (.aload_n 0, 1) := by decide +kernel
theorem dL_law_746 : decode cL_law 746 = .ok (.iload 5, 2) := by decide +kernel
theorem dL_law_748 : decode cL_law 748 = .ok (.iconst 1, 1) := by decide +kernel
theorem dL_law_749 : decode cL_law 749 = .ok (.iadd, 1) := by decide +kernel
theorem dL_law_750 : decode cL_law 750 = .ok (.iaload, 1) := by decide +kernel
theorem dL_law_751 : decode cL_law 751 = .ok (.aload_n 0, 1) := by decide +kernel
theorem dL_law_752 : decode cL_law 752 = .ok (.iload 5, 2) := by decide +kernel
theorem dL_law_754 : decode cL_law 754 = .ok (.iconst 2, 1) := by decide +kernel
theorem dL_law_755 : decode cL_law 755 = .ok (.iadd, 1) := by decide +kernel
theorem dL_law_756 : decode cL_law 756 = .ok (.iaload, 1) := by decide +kernel
theorem dL_law_757 : decode cL_law 757 = .ok (.invokevirtual 134, 3) := by decide +kernel
theorem dL_law_760 : decode cL_law 760 = .ok (.istore 7, 2) := by decide +kernel
theorem dL_law_762 : decode cL_law 762 = .ok (.aload_n 2, 1) := by decide +kernel
theorem dL_law_763 : decode cL_law 763 = .ok (.invokevirtual 101, 3) := by decide +kernel
theorem dL_law_766 : decode cL_law 766 = .ok (.iload 6, 2) := by decide +kernel
theorem dL_law_768 : decode cL_law 768 = .ok (.if_icmp .eq 5, 3) := by decide +kernel
theorem dL_law_771 : decode cL_law 771 = .ok (.iconst 0, 1) := by decide +kernel
theorem dL_law_772 : decode cL_law 772 = .ok (.ireturn, 1) := by decide +kernel
theorem dL_law_773 : decode cL_law 773 = .ok (.iload 6, 2) := by decide +kernel
theorem dL_law_775 : decode cL_law 775 = .ok (.ifCond .ne 15, 3) := by decide +kernel
theorem dL_law_778 : decode cL_law 778 = .ok (.aload_n 3, 1) := by decide +kernel
theorem dL_law_779 : decode cL_law 779 = .ok (.iconst 0, 1) := by decide +kernel
theorem dL_law_780 : decode cL_law 780 = .ok (.laload, 1) := by decide +kernel
theorem dL_law_781 : decode cL_law 781 = .ok (.iload 7, 2) := by decide +kernel
theorem dL_law_783 : decode cL_law 783 = .ok (.i2l, 1) := by decide +kernel
theorem dL_law_784 : decode cL_law 784 = .ok (.lcmp, 1) := by decide +kernel
theorem dL_law_785 : decode cL_law 785 = .ok (.ifCond .eq 5, 3) := by decide +kernel
theorem dL_law_788 : decode cL_law 788 = .ok (.iconst 0, 1) := by decide +kernel
theorem dL_law_789 : decode cL_law 789 = .ok (.ireturn, 1) := by decide +kernel
theorem dL_law_790 : decode cL_law 790 = .ok (.goto 1119, 3) := by decide +kernel
theorem dL_law_793 : decode cL_law 793 = .ok (.aload_n 1, 1) := by decide +kernel
theorem dL_law_794 : decode cL_law 794 = .ok (.aload_n 0, 1) := by decide +kernel
theorem dL_law_795 : decode cL_law 795 = .ok (.iload 5, 2) := by decide +kernel
theorem dL_law_797 : decode cL_law 797 = .ok (.iconst 1, 1) := by decide +kernel
theorem dL_law_798 : decode cL_law 798 = .ok (.iadd, 1) := by decide +kernel
theorem dL_law_799 : decode cL_law 799 = .ok (.iaload, 1) := by decide +kernel
theorem dL_law_800 : decode cL_law 800 = .ok (.ifCond .eq 7, 3) := by decide +kernel
theorem dL_law_803 : decode cL_law 803 = .ok (.iconst 1, 1) := by decide +kernel
theorem dL_law_804 : decode cL_law 804 = .ok (.goto 4, 3) := by decide +kernel
theorem dL_law_807 : decode cL_law 807 = .ok (.iconst 0, 1) := by decide +kernel
theorem dL_law_808 : decode cL_law 808 = .ok (.invokevirtual 135, 3) := by decide +kernel
theorem dL_law_811 : decode cL_law 811 = .ok (.aload_n 2, 1) := by decide +kernel
theorem dL_law_812 : decode cL_law 812 = .ok (.aload_n 0, 1) := by decide +kernel
theorem dL_law_813 : decode cL_law 813 = .ok (.iload 5, 2) := by decide +kernel
theorem dL_law_815 : decode cL_law 815 = .ok (.iconst 1, 1) := by decide +kernel
theorem dL_law_816 : decode cL_law 816 = .ok (.iadd, 1) := by decide +kernel
theorem dL_law_817 : decode cL_law 817 = .ok (.iaload, 1) := by decide +kernel
theorem dL_law_818 : decode cL_law 818 = .ok (.ifCond .eq 7, 3) := by decide +kernel
theorem dL_law_821 : decode cL_law 821 = .ok (.iconst 1, 1) := by decide +kernel
theorem dL_law_822 : decode cL_law 822 = .ok (.goto 4, 3) := by decide +kernel
theorem dL_law_825 : decode cL_law 825 = .ok (.iconst 0, 1) := by decide +kernel
theorem dL_law_826 : decode cL_law 826 = .ok (.invokevirtual 139, 3) := by decide +kernel
theorem dL_law_829 : decode cL_law 829 = .ok (.if_icmp .eq 1080, 3) := by decide +kernel
theorem dL_law_832 : decode cL_law 832 = .ok (.iconst 0, 1) := by decide +kernel
theorem dL_law_833 : decode cL_law 833 = .ok (.ireturn, 1) := by decide +kernel
theorem dL_law_834 : decode cL_law 834 = .ok (.aload_n 1, 1) := by decide +kernel
theorem dL_law_835 : decode cL_law 835 = .ok (.invokevirtual 140, 3) := by decide +kernel
theorem dL_law_838 : decode cL_law 838 = .ok (.aload_n 2, 1) := by decide +kernel
theorem dL_law_839 : decode cL_law 839 = .ok (.invokevirtual 143, 3) := by decide +kernel
theorem dL_law_842 : decode cL_law 842 = .ok (.if_icmp .eq 1067, 3) := by decide +kernel
theorem dL_law_845 : decode cL_law 845 = .ok (.iconst 0, 1) := by decide +kernel
theorem dL_law_846 : decode cL_law 846 = .ok (.ireturn, 1) := by decide +kernel
theorem dL_law_847 : decode cL_law 847 = .ok (.aload_n 1, 1) := by decide +kernel
theorem dL_law_848 : decode cL_law 848 = .ok (.aload_n 0, 1) := by decide +kernel
theorem dL_law_849 : decode cL_law 849 = .ok (.iload 5, 2) := by decide +kernel
theorem dL_law_851 : decode cL_law 851 = .ok (.iconst 1, 1) := by decide +kernel
theorem dL_law_852 : decode cL_law 852 = .ok (.iadd, 1) := by decide +kernel
theorem dL_law_853 : decode cL_law 853 = .ok (.iaload, 1) := by decide +kernel
theorem dL_law_854 : decode cL_law 854 = .ok (.aload_n 0, 1) := by decide +kernel
theorem dL_law_855 : decode cL_law 855 = .ok (.iload 5, 2) := by decide +kernel
theorem dL_law_857 : decode cL_law 857 = .ok (.iconst 2, 1) := by decide +kernel
theorem dL_law_858 : decode cL_law 858 = .ok (.iadd, 1) := by decide +kernel
theorem dL_law_859 : decode cL_law 859 = .ok (.iaload, 1) := by decide +kernel
theorem dL_law_860 : decode cL_law 860 = .ok (.aload_n 3, 1) := by decide +kernel
theorem dL_law_861 : decode cL_law 861 = .ok (.invokestatic 144, 3) := by decide +kernel
theorem dL_law_864 : decode cL_law 864 = .ok (.istore 6, 2) := by decide +kernel
theorem dL_law_866 : decode cL_law 866 = .ok (.aload_n 2, 1) := by decide +kernel
theorem dL_law_867 : decode cL_law 867 = .ok (.aload_n 0, 1) := by decide +kernel
theorem dL_law_868 : decode cL_law 868 = .ok (.iload 5, 2) := by decide +kernel
theorem dL_law_870 : decode cL_law 870 = .ok (.iconst 1, 1) := by decide +kernel
theorem dL_law_871 : decode cL_law 871 = .ok (.iadd, 1) := by decide +kernel
theorem dL_law_872 : decode cL_law 872 = .ok (.iaload, 1) := by decide +kernel
theorem dL_law_873 : decode cL_law 873 = .ok (.aload_n 0, 1) := by decide +kernel
theorem dL_law_874 : decode cL_law 874 = .ok (.iload 5, 2) := by decide +kernel
theorem dL_law_876 : decode cL_law 876 = .ok (.iconst 2, 1) := by decide +kernel
theorem dL_law_877 : decode cL_law 877 = .ok (.iadd, 1) := by decide +kernel
theorem dL_law_878 : decode cL_law 878 = .ok (.iaload, 1) := by decide +kernel
theorem dL_law_879 : decode cL_law 879 = .ok (.invokevirtual 146, 3) := by decide +kernel
theorem dL_law_882 : decode cL_law 882 = .ok (.istore 7, 2) := by decide +kernel
theorem dL_law_884 : decode cL_law 884 = .ok (.aload_n 2, 1) := by decide +kernel
theorem dL_law_885 : decode cL_law 885 = .ok (.invokevirtual 101, 3) := by decide +kernel
theorem dL_law_888 : decode cL_law 888 = .ok (.iload 6, 2) := by decide +kernel
theorem dL_law_890 : decode cL_law 890 = .ok (.if_icmp .eq 5, 3) := by decide +kernel
theorem dL_law_893 : decode cL_law 893 = .ok (.iconst 0, 1) := by decide +kernel
theorem dL_law_894 : decode cL_law 894 = .ok (.ireturn, 1) := by decide +kernel
theorem dL_law_895 : decode cL_law 895 = .ok (.iload 6, 2) := by decide +kernel
theorem dL_law_897 : decode cL_law 897 = .ok (.ifCond .ne 15, 3) := by decide +kernel
theorem dL_law_900 : decode cL_law 900 = .ok (.aload_n 3, 1) := by decide +kernel
theorem dL_law_901 : decode cL_law 901 = .ok (.iconst 0, 1) := by decide +kernel
theorem dL_law_902 : decode cL_law 902 = .ok (.laload, 1) := by decide +kernel
theorem dL_law_903 : decode cL_law 903 = .ok (.iload 7, 2) := by decide +kernel
theorem dL_law_905 : decode cL_law 905 = .ok (.i2l, 1) := by decide +kernel
theorem dL_law_906 : decode cL_law 906 = .ok (.lcmp, 1) := by decide +kernel
theorem dL_law_907 : decode cL_law 907 = .ok (.ifCond .eq 5, 3) := by decide +kernel
theorem dL_law_910 : decode cL_law 910 = .ok (.iconst 0, 1) := by decide +kernel
theorem dL_law_911 : decode cL_law 911 = .ok (.ireturn, 1) := by decide +kernel
theorem dL_law_912 : decode cL_law 912 = .ok (.goto 997, 3) := by decide +kernel
theorem dL_law_915 : decode cL_law 915 = .ok (.aload_n 1, 1) := by decide +kernel
theorem dL_law_916 : decode cL_law 916 = .ok (.aload_n 0, 1) := by decide +kernel
theorem dL_law_917 : decode cL_law 917 = .ok (.iload 5, 2) := by decide +kernel
theorem dL_law_919 : decode cL_law 919 = .ok (.iconst 1, 1) := by decide +kernel
theorem dL_law_920 : decode cL_law 920 = .ok (.iadd, 1) := by decide +kernel
theorem dL_law_921 : decode cL_law 921 = .ok (.iaload, 1) := by decide +kernel
theorem dL_law_922 : decode cL_law 922 = .ok (.aload 4, 2) := by decide +kernel
theorem dL_law_924 : decode cL_law 924 = .ok (.invokestatic 147, 3) := by decide +kernel
theorem dL_law_927 : decode cL_law 927 = .ok (.istore 6, 2) := by decide +kernel
theorem dL_law_929 : decode cL_law 929 = .ok (.aload_n 2, 1) := by decide +kernel
theorem dL_law_930 : decode cL_law 930 = .ok (.aload_n 0, 1) := by decide +kernel
theorem dL_law_931 : decode cL_law 931 = .ok (.iload 5, 2) := by decide +kernel
theorem dL_law_933 : decode cL_law 933 = .ok (.iconst 1, 1) := by decide +kernel
theorem dL_law_934 : decode cL_law 934 = .ok (.iadd, 1) := by decide +kernel
theorem dL_law_935 : decode cL_law 935 = .ok (.iaload, 1) := by decide +kernel
theorem dL_law_936 : decode cL_law 936 = .ok (.invokevirtual 150, 3) := by decide +kernel
theorem dL_law_939 : decode cL_law 939 = .ok (.dstore 7, 2) := by decide +kernel
theorem dL_law_941 : decode cL_law 941 = .ok (.aload_n 2, 1) := by decide +kernel
theorem dL_law_942 : decode cL_law 942 = .ok (.invokevirtual 101, 3) := by decide +kernel
theorem dL_law_945 : decode cL_law 945 = .ok (.iload 6, 2) := by decide +kernel
theorem dL_law_947 : decode cL_law 947 = .ok (.if_icmp .eq 5, 3) := by decide +kernel
theorem dL_law_950 : decode cL_law 950 = .ok (.iconst 0, 1) := by decide +kernel
theorem dL_law_951 : decode cL_law 951 = .ok (.ireturn, 1) := by decide +kernel
theorem dL_law_952 : decode cL_law 952 = .ok (.iload 6, 2) := by decide +kernel
theorem dL_law_954 : decode cL_law 954 = .ok (.ifCond .ne 35, 3) := by decide +kernel
theorem dL_law_957 : decode cL_law 957 = .ok (.aload 4, 2) := by decide +kernel
theorem dL_law_959 : decode cL_law 959 = .ok (.iconst 0, 1) := by decide +kernel
theorem dL_law_960 : decode cL_law 960 = .ok (.daload, 1) := by decide +kernel
theorem dL_law_961 : decode cL_law 961 = .ok (.dload 7, 2) := by decide +kernel
theorem dL_law_963 : decode cL_law 963 = .ok (.dcmp .l, 1) := by decide +kernel
theorem dL_law_964 : decode cL_law 964 = .ok (.ifCond .eq 25, 3) := by decide +kernel
theorem dL_law_967 : decode cL_law 967 = .ok (.aload 4, 2) := by decide +kernel
theorem dL_law_969 : decode cL_law 969 = .ok (.iconst 0, 1) := by decide +kernel
theorem dL_law_970 : decode cL_law 970 = .ok (.daload, 1) := by decide +kernel
theorem dL_law_971 : decode cL_law 971 = .ok (.aload 4, 2) := by decide +kernel
theorem dL_law_973 : decode cL_law 973 = .ok (.iconst 0, 1) := by decide +kernel
theorem dL_law_974 : decode cL_law 974 = .ok (.daload, 1) := by decide +kernel
theorem dL_law_975 : decode cL_law 975 = .ok (.dcmp .l, 1) := by decide +kernel
theorem dL_law_976 : decode cL_law 976 = .ok (.ifCond .eq 11, 3) := by decide +kernel
theorem dL_law_979 : decode cL_law 979 = .ok (.dload 7, 2) := by decide +kernel
theorem dL_law_981 : decode cL_law 981 = .ok (.dload 7, 2) := by decide +kernel
theorem dL_law_983 : decode cL_law 983 = .ok (.dcmp .l, 1) := by decide +kernel
theorem dL_law_984 : decode cL_law 984 = .ok (.ifCond .ne 5, 3) := by decide +kernel
theorem dL_law_987 : decode cL_law 987 = .ok (.iconst 0, 1) := by decide +kernel
theorem dL_law_988 : decode cL_law 988 = .ok (.ireturn, 1) := by decide +kernel
theorem dL_law_989 : decode cL_law 989 = .ok (.goto 920, 3) := by decide +kernel
theorem dL_law_992 : decode cL_law 992 = .ok (.aload_n 1, 1) := by decide +kernel
theorem dL_law_993 : decode cL_law 993 = .ok (.aload_n 0, 1) := by decide +kernel
theorem dL_law_994 : decode cL_law 994 = .ok (.iload 5, 2) := by decide +kernel
theorem dL_law_996 : decode cL_law 996 = .ok (.iconst 1, 1) := by decide +kernel
theorem dL_law_997 : decode cL_law 997 = .ok (.iadd, 1) := by decide +kernel
theorem dL_law_998 : decode cL_law 998 = .ok (.iaload, 1) := by decide +kernel
theorem dL_law_999 : decode cL_law 999 = .ok (.aload_n 0, 1) := by decide +kernel
theorem dL_law_1000 : decode cL_law 1000 = .ok (.iload 5, 2) := by decide +kernel
theorem dL_law_1002 : decode cL_law 1002 = .ok (.iconst 2, 1) := by decide +kernel
theorem dL_law_1003 : decode cL_law 1003 = .ok (.iadd, 1) := by decide +kernel
theorem dL_law_1004 : decode cL_law 1004 = .ok (.iaload, 1) := by decide +kernel
theorem dL_law_1005 : decode cL_law 1005 = .ok (.ifCond .eq 7, 3) := by decide +kernel
theorem dL_law_1008 : decode cL_law 1008 = .ok (.iconst 1, 1) := by decide +kernel
theorem dL_law_1009 : decode cL_law 1009 = .ok (.goto 4, 3) := by decide +kernel
theorem dL_law_1012 : decode cL_law 1012 = .ok (.iconst 0, 1) := by decide +kernel
theorem dL_law_1013 : decode cL_law 1013 = .ok (.aload 4, 2) := by decide +kernel
theorem dL_law_1015 : decode cL_law 1015 = .ok (.invokestatic 151, 3) := by decide +kernel
theorem dL_law_1018 : decode cL_law 1018 = .ok (.istore 6, 2) := by decide +kernel
theorem dL_law_1020 : decode cL_law 1020 = .ok (.aload_n 2, 1) := by decide +kernel
theorem dL_law_1021 : decode cL_law 1021 = .ok (.aload_n 0, 1) := by decide +kernel
theorem dL_law_1022 : decode cL_law 1022 = .ok (.iload 5, 2) := by decide +kernel
theorem dL_law_1024 : decode cL_law 1024 = .ok (.iconst 1, 1) := by decide +kernel
theorem dL_law_1025 : decode cL_law 1025 = .ok (.iadd, 1) := by decide +kernel
theorem dL_law_1026 : decode cL_law 1026 = .ok (.iaload, 1) := by decide +kernel
theorem dL_law_1027 : decode cL_law 1027 = .ok (.aload_n 0, 1) := by decide +kernel
theorem dL_law_1028 : decode cL_law 1028 = .ok (.iload 5, 2) := by decide +kernel
theorem dL_law_1030 : decode cL_law 1030 = .ok (.iconst 2, 1) := by decide +kernel
theorem dL_law_1031 : decode cL_law 1031 = .ok (.iadd, 1) := by decide +kernel
theorem dL_law_1032 : decode cL_law 1032 = .ok (.iaload, 1) := by decide +kernel
theorem dL_law_1033 : decode cL_law 1033 = .ok (.ifCond .eq 7, 3) := by decide +kernel
theorem dL_law_1036 : decode cL_law 1036 = .ok (.iconst 1, 1) := by decide +kernel
theorem dL_law_1037 : decode cL_law 1037 = .ok (.goto 4, 3) := by decide +kernel
theorem dL_law_1040 : decode cL_law 1040 = .ok (.iconst 0, 1) := by decide +kernel
theorem dL_law_1041 : decode cL_law 1041 = .ok (.invokevirtual 154, 3) := by decide +kernel
theorem dL_law_1044 : decode cL_law 1044 = .ok (.dstore 7, 2) := by decide +kernel
theorem dL_law_1046 : decode cL_law 1046 = .ok (.aload_n 2, 1) := by decide +kernel
theorem dL_law_1047 : decode cL_law 1047 = .ok (.invokevirtual 101, 3) := by decide +kernel
theorem dL_law_1050 : decode cL_law 1050 = .ok (.iload 6, 2) := by decide +kernel
theorem dL_law_1052 : decode cL_law 1052 = .ok (.if_icmp .eq 5, 3) := by decide +kernel
theorem dL_law_1055 : decode cL_law 1055 = .ok (.iconst 0, 1) := by decide +kernel
theorem dL_law_1056 : decode cL_law 1056 = .ok (.ireturn, 1) := by decide +kernel
theorem dL_law_1057 : decode cL_law 1057 = .ok (.iload 6, 2) := by decide +kernel
theorem dL_law_1059 : decode cL_law 1059 = .ok (.ifCond .ne 35, 3) := by decide +kernel
theorem dL_law_1062 : decode cL_law 1062 = .ok (.aload 4, 2) := by decide +kernel
theorem dL_law_1064 : decode cL_law 1064 = .ok (.iconst 0, 1) := by decide +kernel
theorem dL_law_1065 : decode cL_law 1065 = .ok (.daload, 1) := by decide +kernel
theorem dL_law_1066 : decode cL_law 1066 = .ok (.dload 7, 2) := by decide +kernel
theorem dL_law_1068 : decode cL_law 1068 = .ok (.dcmp .l, 1) := by decide +kernel
theorem dL_law_1069 : decode cL_law 1069 = .ok (.ifCond .eq 25, 3) := by decide +kernel
theorem dL_law_1072 : decode cL_law 1072 = .ok (.aload 4, 2) := by decide +kernel
theorem dL_law_1074 : decode cL_law 1074 = .ok (.iconst 0, 1) := by decide +kernel
theorem dL_law_1075 : decode cL_law 1075 = .ok (.daload, 1) := by decide +kernel
theorem dL_law_1076 : decode cL_law 1076 = .ok (.aload 4, 2) := by decide +kernel
theorem dL_law_1078 : decode cL_law 1078 = .ok (.iconst 0, 1) := by decide +kernel
theorem dL_law_1079 : decode cL_law 1079 = .ok (.daload, 1) := by decide +kernel
theorem dL_law_1080 : decode cL_law 1080 = .ok (.dcmp .l, 1) := by decide +kernel
theorem dL_law_1081 : decode cL_law 1081 = .ok (.ifCond .eq 11, 3) := by decide +kernel
theorem dL_law_1084 : decode cL_law 1084 = .ok (.dload 7, 2) := by decide +kernel
theorem dL_law_1086 : decode cL_law 1086 = .ok (.dload 7, 2) := by decide +kernel
theorem dL_law_1088 : decode cL_law 1088 = .ok (.dcmp .l, 1) := by decide +kernel
theorem dL_law_1089 : decode cL_law 1089 = .ok (.ifCond .ne 5, 3) := by decide +kernel
theorem dL_law_1092 : decode cL_law 1092 = .ok (.iconst 0, 1) := by decide +kernel
theorem dL_law_1093 : decode cL_law 1093 = .ok (.ireturn, 1) := by decide +kernel
theorem dL_law_1094 : decode cL_law 1094 = .ok (.goto 815, 3) := by decide +kernel
theorem dL_law_1097 : decode cL_law 1097 = .ok (.aload_n 1, 1) := by decide +kernel
theorem dL_law_1098 : decode cL_law 1098 = .ok (.aload_n 0, 1) := by decide +kernel
theorem dL_law_1099 : decode cL_law 1099 = .ok (.iload 5, 2) := by decide +kernel
theorem dL_law_1101 : decode cL_law 1101 = .ok (.iconst 1, 1) := by decide +kernel
theorem dL_law_1102 : decode cL_law 1102 = .ok (.iadd, 1) := by decide +kernel
theorem dL_law_1103 : decode cL_law 1103 = .ok (.iaload, 1) := by decide +kernel
theorem dL_law_1104 : decode cL_law 1104 = .ok (.aload_n 3, 1) := by decide +kernel
theorem dL_law_1105 : decode cL_law 1105 = .ok (.invokestatic 155, 3) := by decide +kernel
theorem dL_law_1108 : decode cL_law 1108 = .ok (.istore 6, 2) := by decide +kernel
theorem dL_law_1110 : decode cL_law 1110 = .ok (.aload_n 2, 1) := by decide +kernel
theorem dL_law_1111 : decode cL_law 1111 = .ok (.aload_n 0, 1) := by decide +kernel
theorem dL_law_1112 : decode cL_law 1112 = .ok (.iload 5, 2) := by decide +kernel
theorem dL_law_1114 : decode cL_law 1114 = .ok (.iconst 1, 1) := by decide +kernel
theorem dL_law_1115 : decode cL_law 1115 = .ok (.iadd, 1) := by decide +kernel
theorem dL_law_1116 : decode cL_law 1116 = .ok (.iaload, 1) := by decide +kernel
theorem dL_law_1117 : decode cL_law 1117 = .ok (.invokevirtual 157, 3) := by decide +kernel
theorem dL_law_1120 : decode cL_law 1120 = .ok (.istore 7, 2) := by decide +kernel
theorem dL_law_1122 : decode cL_law 1122 = .ok (.aload_n 2, 1) := by decide +kernel
theorem dL_law_1123 : decode cL_law 1123 = .ok (.invokevirtual 101, 3) := by decide +kernel
theorem dL_law_1126 : decode cL_law 1126 = .ok (.iload 6, 2) := by decide +kernel
theorem dL_law_1128 : decode cL_law 1128 = .ok (.if_icmp .eq 5, 3) := by decide +kernel
theorem dL_law_1131 : decode cL_law 1131 = .ok (.iconst 0, 1) := by decide +kernel
theorem dL_law_1132 : decode cL_law 1132 = .ok (.ireturn, 1) := by decide +kernel
theorem dL_law_1133 : decode cL_law 1133 = .ok (.iload 6, 2) := by decide +kernel
theorem dL_law_1135 : decode cL_law 1135 = .ok (.ifCond .ne 15, 3) := by decide +kernel
theorem dL_law_1138 : decode cL_law 1138 = .ok (.aload_n 3, 1) := by decide +kernel
theorem dL_law_1139 : decode cL_law 1139 = .ok (.iconst 0, 1) := by decide +kernel
theorem dL_law_1140 : decode cL_law 1140 = .ok (.laload, 1) := by decide +kernel
theorem dL_law_1141 : decode cL_law 1141 = .ok (.iload 7, 2) := by decide +kernel
theorem dL_law_1143 : decode cL_law 1143 = .ok (.i2l, 1) := by decide +kernel
theorem dL_law_1144 : decode cL_law 1144 = .ok (.lcmp, 1) := by decide +kernel
theorem dL_law_1145 : decode cL_law 1145 = .ok (.ifCond .eq 5, 3) := by decide +kernel
theorem dL_law_1148 : decode cL_law 1148 = .ok (.iconst 0, 1) := by decide +kernel
theorem dL_law_1149 : decode cL_law 1149 = .ok (.ireturn, 1) := by decide +kernel
theorem dL_law_1150 : decode cL_law 1150 = .ok (.goto 759, 3) := by decide +kernel
theorem dL_law_1153 : decode cL_law 1153 = .ok (.aload_n 1, 1) := by decide +kernel
theorem dL_law_1154 : decode cL_law 1154 = .ok (.aload_n 0, 1) := by decide +kernel
theorem dL_law_1155 : decode cL_law 1155 = .ok (.iload 5, 2) := by decide +kernel
theorem dL_law_1157 : decode cL_law 1157 = .ok (.iconst 1, 1) := by decide +kernel
theorem dL_law_1158 : decode cL_law 1158 = .ok (.iadd, 1) := by decide +kernel
theorem dL_law_1159 : decode cL_law 1159 = .ok (.iaload, 1) := by decide +kernel
theorem dL_law_1160 : decode cL_law 1160 = .ok (.aload_n 0, 1) := by decide +kernel
theorem dL_law_1161 : decode cL_law 1161 = .ok (.iload 5, 2) := by decide +kernel
theorem dL_law_1163 : decode cL_law 1163 = .ok (.iconst 2, 1) := by decide +kernel
theorem dL_law_1164 : decode cL_law 1164 = .ok (.iadd, 1) := by decide +kernel
theorem dL_law_1165 : decode cL_law 1165 = .ok (.iaload, 1) := by decide +kernel
theorem dL_law_1166 : decode cL_law 1166 = .ok (.aload_n 3, 1) := by decide +kernel
theorem dL_law_1167 : decode cL_law 1167 = .ok (.invokestatic 158, 3) := by decide +kernel
theorem dL_law_1170 : decode cL_law 1170 = .ok (.istore 6, 2) := by decide +kernel
theorem dL_law_1172 : decode cL_law 1172 = .ok (.aload_n 2, 1) := by decide +kernel
theorem dL_law_1173 : decode cL_law 1173 = .ok (.aload_n 0, 1) := by decide +kernel
theorem dL_law_1174 : decode cL_law 1174 = .ok (.iload 5, 2) := by decide +kernel
theorem dL_law_1176 : decode cL_law 1176 = .ok (.iconst 1, 1) := by decide +kernel
theorem dL_law_1177 : decode cL_law 1177 = .ok (.iadd, 1) := by decide +kernel
theorem dL_law_1178 : decode cL_law 1178 = .ok (.iaload, 1) := by decide +kernel
theorem dL_law_1179 : decode cL_law 1179 = .ok (.aload_n 0, 1) := by decide +kernel
theorem dL_law_1180 : decode cL_law 1180 = .ok (.iload 5, 2) := by decide +kernel
theorem dL_law_1182 : decode cL_law 1182 = .ok (.iconst 2, 1) := by decide +kernel
theorem dL_law_1183 : decode cL_law 1183 = .ok (.iadd, 1) := by decide +kernel
theorem dL_law_1184 : decode cL_law 1184 = .ok (.iaload, 1) := by decide +kernel
theorem dL_law_1185 : decode cL_law 1185 = .ok (.invokevirtual 160, 3) := by decide +kernel
theorem dL_law_1188 : decode cL_law 1188 = .ok (.istore 7, 2) := by decide +kernel
theorem dL_law_1190 : decode cL_law 1190 = .ok (.aload_n 2, 1) := by decide +kernel
theorem dL_law_1191 : decode cL_law 1191 = .ok (.invokevirtual 101, 3) := by decide +kernel
theorem dL_law_1194 : decode cL_law 1194 = .ok (.iload 6, 2) := by decide +kernel
theorem dL_law_1196 : decode cL_law 1196 = .ok (.if_icmp .eq 5, 3) := by decide +kernel
theorem dL_law_1199 : decode cL_law 1199 = .ok (.iconst 0, 1) := by decide +kernel
theorem dL_law_1200 : decode cL_law 1200 = .ok (.ireturn, 1) := by decide +kernel
theorem dL_law_1201 : decode cL_law 1201 = .ok (.iload 6, 2) := by decide +kernel
theorem dL_law_1203 : decode cL_law 1203 = .ok (.ifCond .ne 15, 3) := by decide +kernel
theorem dL_law_1206 : decode cL_law 1206 = .ok (.aload_n 3, 1) := by decide +kernel
theorem dL_law_1207 : decode cL_law 1207 = .ok (.iconst 0, 1) := by decide +kernel
theorem dL_law_1208 : decode cL_law 1208 = .ok (.laload, 1) := by decide +kernel
theorem dL_law_1209 : decode cL_law 1209 = .ok (.iload 7, 2) := by decide +kernel
theorem dL_law_1211 : decode cL_law 1211 = .ok (.i2l, 1) := by decide +kernel
theorem dL_law_1212 : decode cL_law 1212 = .ok (.lcmp, 1) := by decide +kernel
theorem dL_law_1213 : decode cL_law 1213 = .ok (.ifCond .eq 5, 3) := by decide +kernel
theorem dL_law_1216 : decode cL_law 1216 = .ok (.iconst 0, 1) := by decide +kernel
theorem dL_law_1217 : decode cL_law 1217 = .ok (.ireturn, 1) := by decide +kernel
theorem dL_law_1218 : decode cL_law 1218 = .ok (.goto 691, 3) := by decide +kernel
theorem dL_law_1221 : decode cL_law 1221 = .ok (.aload_n 1, 1) := by decide +kernel
theorem dL_law_1222 : decode cL_law 1222 = .ok (.aload_n 0, 1) := by decide +kernel
theorem dL_law_1223 : decode cL_law 1223 = .ok (.iload 5, 2) := by decide +kernel
theorem dL_law_1225 : decode cL_law 1225 = .ok (.iconst 1, 1) := by decide +kernel
theorem dL_law_1226 : decode cL_law 1226 = .ok (.iadd, 1) := by decide +kernel
theorem dL_law_1227 : decode cL_law 1227 = .ok (.iaload, 1) := by decide +kernel
theorem dL_law_1228 : decode cL_law 1228 = .ok (.aload 4, 2) := by decide +kernel
theorem dL_law_1230 : decode cL_law 1230 = .ok (.invokestatic 161, 3) := by decide +kernel
theorem dL_law_1233 : decode cL_law 1233 = .ok (.istore 6, 2) := by decide +kernel
theorem dL_law_1235 : decode cL_law 1235 = .ok (.aload_n 2, 1) := by decide +kernel
theorem dL_law_1236 : decode cL_law 1236 = .ok (.aload_n 0, 1) := by decide +kernel
theorem dL_law_1237 : decode cL_law 1237 = .ok (.iload 5, 2) := by decide +kernel
theorem dL_law_1239 : decode cL_law 1239 = .ok (.iconst 1, 1) := by decide +kernel
theorem dL_law_1240 : decode cL_law 1240 = .ok (.iadd, 1) := by decide +kernel
theorem dL_law_1241 : decode cL_law 1241 = .ok (.iaload, 1) := by decide +kernel
theorem dL_law_1242 : decode cL_law 1242 = .ok (.invokevirtual 163, 3) := by decide +kernel
theorem dL_law_1245 : decode cL_law 1245 = .ok (.dstore 7, 2) := by decide +kernel
theorem dL_law_1247 : decode cL_law 1247 = .ok (.aload_n 2, 1) := by decide +kernel
theorem dL_law_1248 : decode cL_law 1248 = .ok (.invokevirtual 101, 3) := by decide +kernel
theorem dL_law_1251 : decode cL_law 1251 = .ok (.iload 6, 2) := by decide +kernel
theorem dL_law_1253 : decode cL_law 1253 = .ok (.if_icmp .eq 5, 3) := by decide +kernel
theorem dL_law_1256 : decode cL_law 1256 = .ok (.iconst 0, 1) := by decide +kernel
theorem dL_law_1257 : decode cL_law 1257 = .ok (.ireturn, 1) := by decide +kernel
theorem dL_law_1258 : decode cL_law 1258 = .ok (.iload 6, 2) := by decide +kernel
theorem dL_law_1260 : decode cL_law 1260 = .ok (.ifCond .ne 35, 3) := by decide +kernel
theorem dL_law_1263 : decode cL_law 1263 = .ok (.aload 4, 2) := by decide +kernel
theorem dL_law_1265 : decode cL_law 1265 = .ok (.iconst 0, 1) := by decide +kernel
theorem dL_law_1266 : decode cL_law 1266 = .ok (.daload, 1) := by decide +kernel
theorem dL_law_1267 : decode cL_law 1267 = .ok (.dload 7, 2) := by decide +kernel
theorem dL_law_1269 : decode cL_law 1269 = .ok (.dcmp .l, 1) := by decide +kernel
theorem dL_law_1270 : decode cL_law 1270 = .ok (.ifCond .eq 25, 3) := by decide +kernel
theorem dL_law_1273 : decode cL_law 1273 = .ok (.aload 4, 2) := by decide +kernel
theorem dL_law_1275 : decode cL_law 1275 = .ok (.iconst 0, 1) := by decide +kernel
theorem dL_law_1276 : decode cL_law 1276 = .ok (.daload, 1) := by decide +kernel
theorem dL_law_1277 : decode cL_law 1277 = .ok (.aload 4, 2) := by decide +kernel
theorem dL_law_1279 : decode cL_law 1279 = .ok (.iconst 0, 1) := by decide +kernel
theorem dL_law_1280 : decode cL_law 1280 = .ok (.daload, 1) := by decide +kernel
theorem dL_law_1281 : decode cL_law 1281 = .ok (.dcmp .l, 1) := by decide +kernel
theorem dL_law_1282 : decode cL_law 1282 = .ok (.ifCond .eq 11, 3) := by decide +kernel
theorem dL_law_1285 : decode cL_law 1285 = .ok (.dload 7, 2) := by decide +kernel
theorem dL_law_1287 : decode cL_law 1287 = .ok (.dload 7, 2) := by decide +kernel
theorem dL_law_1289 : decode cL_law 1289 = .ok (.dcmp .l, 1) := by decide +kernel
theorem dL_law_1290 : decode cL_law 1290 = .ok (.ifCond .ne 5, 3) := by decide +kernel
theorem dL_law_1293 : decode cL_law 1293 = .ok (.iconst 0, 1) := by decide +kernel
theorem dL_law_1294 : decode cL_law 1294 = .ok (.ireturn, 1) := by decide +kernel
theorem dL_law_1295 : decode cL_law 1295 = .ok (.goto 614, 3) := by decide +kernel
theorem dL_law_1298 : decode cL_law 1298 = .ok (.aload_n 1, 1) := by decide +kernel
theorem dL_law_1299 : decode cL_law 1299 = .ok (.aload_n 0, 1) := by decide +kernel
theorem dL_law_1300 : decode cL_law 1300 = .ok (.iload 5, 2) := by decide +kernel
theorem dL_law_1302 : decode cL_law 1302 = .ok (.iconst 1, 1) := by decide +kernel
theorem dL_law_1303 : decode cL_law 1303 = .ok (.iadd, 1) := by decide +kernel
theorem dL_law_1304 : decode cL_law 1304 = .ok (.iaload, 1) := by decide +kernel
theorem dL_law_1305 : decode cL_law 1305 = .ok (.aload_n 0, 1) := by decide +kernel
theorem dL_law_1306 : decode cL_law 1306 = .ok (.iload 5, 2) := by decide +kernel
theorem dL_law_1308 : decode cL_law 1308 = .ok (.iconst 2, 1) := by decide +kernel
theorem dL_law_1309 : decode cL_law 1309 = .ok (.iadd, 1) := by decide +kernel
theorem dL_law_1310 : decode cL_law 1310 = .ok (.iaload, 1) := by decide +kernel
theorem dL_law_1311 : decode cL_law 1311 = .ok (.ifCond .eq 7, 3) := by decide +kernel
theorem dL_law_1314 : decode cL_law 1314 = .ok (.iconst 1, 1) := by decide +kernel
theorem dL_law_1315 : decode cL_law 1315 = .ok (.goto 4, 3) := by decide +kernel
theorem dL_law_1318 : decode cL_law 1318 = .ok (.iconst 0, 1) := by decide +kernel
theorem dL_law_1319 : decode cL_law 1319 = .ok (.aload_n 3, 1) := by decide +kernel
theorem dL_law_1320 : decode cL_law 1320 = .ok (.invokestatic 164, 3) := by decide +kernel
theorem dL_law_1323 : decode cL_law 1323 = .ok (.istore 6, 2) := by decide +kernel
theorem dL_law_1325 : decode cL_law 1325 = .ok (.aload_n 2, 1) := by decide +kernel
theorem dL_law_1326 : decode cL_law 1326 = .ok (.aload_n 0, 1) := by decide +kernel
theorem dL_law_1327 : decode cL_law 1327 = .ok (.iload 5, 2) := by decide +kernel
theorem dL_law_1329 : decode cL_law 1329 = .ok (.iconst 1, 1) := by decide +kernel
theorem dL_law_1330 : decode cL_law 1330 = .ok (.iadd, 1) := by decide +kernel
theorem dL_law_1331 : decode cL_law 1331 = .ok (.iaload, 1) := by decide +kernel
theorem dL_law_1332 : decode cL_law 1332 = .ok (.aload_n 0, 1) := by decide +kernel
theorem dL_law_1333 : decode cL_law 1333 = .ok (.iload 5, 2) := by decide +kernel
theorem dL_law_1335 : decode cL_law 1335 = .ok (.iconst 2, 1) := by decide +kernel
theorem dL_law_1336 : decode cL_law 1336 = .ok (.iadd, 1) := by decide +kernel
theorem dL_law_1337 : decode cL_law 1337 = .ok (.iaload, 1) := by decide +kernel
theorem dL_law_1338 : decode cL_law 1338 = .ok (.ifCond .eq 7, 3) := by decide +kernel
theorem dL_law_1341 : decode cL_law 1341 = .ok (.iconst 1, 1) := by decide +kernel
theorem dL_law_1342 : decode cL_law 1342 = .ok (.goto 4, 3) := by decide +kernel
theorem dL_law_1345 : decode cL_law 1345 = .ok (.iconst 0, 1) := by decide +kernel
theorem dL_law_1346 : decode cL_law 1346 = .ok (.invokevirtual 167, 3) := by decide +kernel
theorem dL_law_1349 : decode cL_law 1349 = .ok (.istore 7, 2) := by decide +kernel
theorem dL_law_1351 : decode cL_law 1351 = .ok (.aload_n 2, 1) := by decide +kernel
theorem dL_law_1352 : decode cL_law 1352 = .ok (.invokevirtual 101, 3) := by decide +kernel
theorem dL_law_1355 : decode cL_law 1355 = .ok (.iload 6, 2) := by decide +kernel
theorem dL_law_1357 : decode cL_law 1357 = .ok (.if_icmp .eq 5, 3) := by decide +kernel
theorem dL_law_1360 : decode cL_law 1360 = .ok (.iconst 0, 1) := by decide +kernel
theorem dL_law_1361 : decode cL_law 1361 = .ok (.ireturn, 1) := by decide +kernel
theorem dL_law_1362 : decode cL_law 1362 = .ok (.iload 6, 2) := by decide +kernel
theorem dL_law_1364 : decode cL_law 1364 = .ok (.ifCond .ne 15, 3) := by decide +kernel
theorem dL_law_1367 : decode cL_law 1367 = .ok (.aload_n 3, 1) := by decide +kernel
theorem dL_law_1368 : decode cL_law 1368 = .ok (.iconst 0, 1) := by decide +kernel
theorem dL_law_1369 : decode cL_law 1369 = .ok (.laload, 1) := by decide +kernel
theorem dL_law_1370 : decode cL_law 1370 = .ok (.iload 7, 2) := by decide +kernel
theorem dL_law_1372 : decode cL_law 1372 = .ok (.i2l, 1) := by decide +kernel
theorem dL_law_1373 : decode cL_law 1373 = .ok (.lcmp, 1) := by decide +kernel
theorem dL_law_1374 : decode cL_law 1374 = .ok (.ifCond .eq 5, 3) := by decide +kernel
theorem dL_law_1377 : decode cL_law 1377 = .ok (.iconst 0, 1) := by decide +kernel
theorem dL_law_1378 : decode cL_law 1378 = .ok (.ireturn, 1) := by decide +kernel
theorem dL_law_1379 : decode cL_law 1379 = .ok (.goto 530, 3) := by decide +kernel
theorem dL_law_1382 : decode cL_law 1382 = .ok (.aload_n 1, 1) := by decide +kernel
theorem dL_law_1383 : decode cL_law 1383 = .ok (.aload_n 0, 1) := by decide +kernel
theorem dL_law_1384 : decode cL_law 1384 = .ok (.iload 5, 2) := by decide +kernel
theorem dL_law_1386 : decode cL_law 1386 = .ok (.iconst 1, 1) := by decide +kernel
theorem dL_law_1387 : decode cL_law 1387 = .ok (.iadd, 1) := by decide +kernel
theorem dL_law_1388 : decode cL_law 1388 = .ok (.iaload, 1) := by decide +kernel
theorem dL_law_1389 : decode cL_law 1389 = .ok (.aload_n 3, 1) := by decide +kernel
theorem dL_law_1390 : decode cL_law 1390 = .ok (.invokestatic 168, 3) := by decide +kernel
theorem dL_law_1393 : decode cL_law 1393 = .ok (.istore 6, 2) := by decide +kernel
theorem dL_law_1395 : decode cL_law 1395 = .ok (.aload_n 2, 1) := by decide +kernel
theorem dL_law_1396 : decode cL_law 1396 = .ok (.aload_n 0, 1) := by decide +kernel
theorem dL_law_1397 : decode cL_law 1397 = .ok (.iload 5, 2) := by decide +kernel
theorem dL_law_1399 : decode cL_law 1399 = .ok (.iconst 1, 1) := by decide +kernel
theorem dL_law_1400 : decode cL_law 1400 = .ok (.iadd, 1) := by decide +kernel
theorem dL_law_1401 : decode cL_law 1401 = .ok (.iaload, 1) := by decide +kernel
theorem dL_law_1402 : decode cL_law 1402 = .ok (.invokevirtual 170, 3) := by decide +kernel
theorem dL_law_1405 : decode cL_law 1405 = .ok (.istore 7, 2) := by decide +kernel
theorem dL_law_1407 : decode cL_law 1407 = .ok (.aload_n 2, 1) := by decide +kernel
theorem dL_law_1408 : decode cL_law 1408 = .ok (.invokevirtual 101, 3) := by decide +kernel
theorem dL_law_1411 : decode cL_law 1411 = .ok (.iload 6, 2) := by decide +kernel
theorem dL_law_1413 : decode cL_law 1413 = .ok (.if_icmp .eq 5, 3) := by decide +kernel
theorem dL_law_1416 : decode cL_law 1416 = .ok (.iconst 0, 1) := by decide +kernel
theorem dL_law_1417 : decode cL_law 1417 = .ok (.ireturn, 1) := by decide +kernel
theorem dL_law_1418 : decode cL_law 1418 = .ok (.iload 6, 2) := by decide +kernel
theorem dL_law_1420 : decode cL_law 1420 = .ok (.ifCond .ne 15, 3) := by decide +kernel
theorem dL_law_1423 : decode cL_law 1423 = .ok (.aload_n 3, 1) := by decide +kernel
theorem dL_law_1424 : decode cL_law 1424 = .ok (.iconst 0, 1) := by decide +kernel
theorem dL_law_1425 : decode cL_law 1425 = .ok (.laload, 1) := by decide +kernel
theorem dL_law_1426 : decode cL_law 1426 = .ok (.iload 7, 2) := by decide +kernel
theorem dL_law_1428 : decode cL_law 1428 = .ok (.i2l, 1) := by decide +kernel
theorem dL_law_1429 : decode cL_law 1429 = .ok (.lcmp, 1) := by decide +kernel
theorem dL_law_1430 : decode cL_law 1430 = .ok (.ifCond .eq 5, 3) := by decide +kernel
theorem dL_law_1433 : decode cL_law 1433 = .ok (.iconst 0, 1) := by decide +kernel
theorem dL_law_1434 : decode cL_law 1434 = .ok (.ireturn, 1) := by decide +kernel
theorem dL_law_1435 : decode cL_law 1435 = .ok (.goto 474, 3) := by decide +kernel
theorem dL_law_1438 : decode cL_law 1438 = .ok (.aload_n 1, 1) := by decide +kernel
theorem dL_law_1439 : decode cL_law 1439 = .ok (.aload_n 0, 1) := by decide +kernel
theorem dL_law_1440 : decode cL_law 1440 = .ok (.iload 5, 2) := by decide +kernel
theorem dL_law_1442 : decode cL_law 1442 = .ok (.iconst 1, 1) := by decide +kernel
theorem dL_law_1443 : decode cL_law 1443 = .ok (.iadd, 1) := by decide +kernel
theorem dL_law_1444 : decode cL_law 1444 = .ok (.iaload, 1) := by decide +kernel
theorem dL_law_1445 : decode cL_law 1445 = .ok (.aload_n 3, 1) := by decide +kernel
theorem dL_law_1446 : decode cL_law 1446 = .ok (.invokestatic 171, 3) := by decide +kernel
theorem dL_law_1449 : decode cL_law 1449 = .ok (.istore 6, 2) := by decide +kernel
theorem dL_law_1451 : decode cL_law 1451 = .ok (.aload_n 2, 1) := by decide +kernel
theorem dL_law_1452 : decode cL_law 1452 = .ok (.aload_n 0, 1) := by decide +kernel
theorem dL_law_1453 : decode cL_law 1453 = .ok (.iload 5, 2) := by decide +kernel
theorem dL_law_1455 : decode cL_law 1455 = .ok (.iconst 1, 1) := by decide +kernel
theorem dL_law_1456 : decode cL_law 1456 = .ok (.iadd, 1) := by decide +kernel
theorem dL_law_1457 : decode cL_law 1457 = .ok (.iaload, 1) := by decide +kernel
theorem dL_law_1458 : decode cL_law 1458 = .ok (.invokevirtual 173, 3) := by decide +kernel
theorem dL_law_1461 : decode cL_law 1461 = .ok (.istore 7, 2) := by decide +kernel
theorem dL_law_1463 : decode cL_law 1463 = .ok (.aload_n 2, 1) := by decide +kernel
theorem dL_law_1464 : decode cL_law 1464 = .ok (.invokevirtual 101, 3) := by decide +kernel
theorem dL_law_1467 : decode cL_law 1467 = .ok (.iload 6, 2) := by decide +kernel
theorem dL_law_1469 : decode cL_law 1469 = .ok (.if_icmp .eq 5, 3) := by decide +kernel
theorem dL_law_1472 : decode cL_law 1472 = .ok (.iconst 0, 1) := by decide +kernel
theorem dL_law_1473 : decode cL_law 1473 = .ok (.ireturn, 1) := by decide +kernel
theorem dL_law_1474 : decode cL_law 1474 = .ok (.iload 6, 2) := by decide +kernel
theorem dL_law_1476 : decode cL_law 1476 = .ok (.ifCond .ne 15, 3) := by decide +kernel
theorem dL_law_1479 : decode cL_law 1479 = .ok (.aload_n 3, 1) := by decide +kernel
theorem dL_law_1480 : decode cL_law 1480 = .ok (.iconst 0, 1) := by decide +kernel
theorem dL_law_1481 : decode cL_law 1481 = .ok (.laload, 1) := by decide +kernel
theorem dL_law_1482 : decode cL_law 1482 = .ok (.iload 7, 2) := by decide +kernel
theorem dL_law_1484 : decode cL_law 1484 = .ok (.i2l, 1) := by decide +kernel
theorem dL_law_1485 : decode cL_law 1485 = .ok (.lcmp, 1) := by decide +kernel
theorem dL_law_1486 : decode cL_law 1486 = .ok (.ifCond .eq 5, 3) := by decide +kernel
theorem dL_law_1489 : decode cL_law 1489 = .ok (.iconst 0, 1) := by decide +kernel
theorem dL_law_1490 : decode cL_law 1490 = .ok (.ireturn, 1) := by decide +kernel
theorem dL_law_1491 : decode cL_law 1491 = .ok (.goto 418, 3) := by decide +kernel
theorem dL_law_1494 : decode cL_law 1494 = .ok (.aload_n 1, 1) := by decide +kernel
theorem dL_law_1495 : decode cL_law 1495 = .ok (.aload_n 0, 1) := by decide +kernel
theorem dL_law_1496 : decode cL_law 1496 = .ok (.iload 5, 2) := by decide +kernel
theorem dL_law_1498 : decode cL_law 1498 = .ok (.iconst 1, 1) := by decide +kernel
theorem dL_law_1499 : decode cL_law 1499 = .ok (.iadd, 1) := by decide +kernel
theorem dL_law_1500 : decode cL_law 1500 = .ok (.iaload, 1) := by decide +kernel
theorem dL_law_1501 : decode cL_law 1501 = .ok (.aload_n 0, 1) := by decide +kernel
theorem dL_law_1502 : decode cL_law 1502 = .ok (.iload 5, 2) := by decide +kernel
theorem dL_law_1504 : decode cL_law 1504 = .ok (.iconst 2, 1) := by decide +kernel
theorem dL_law_1505 : decode cL_law 1505 = .ok (.iadd, 1) := by decide +kernel
theorem dL_law_1506 : decode cL_law 1506 = .ok (.iaload, 1) := by decide +kernel
theorem dL_law_1507 : decode cL_law 1507 = .ok (.aload_n 0, 1) := by decide +kernel
theorem dL_law_1508 : decode cL_law 1508 = .ok (.iload 5, 2) := by decide +kernel
theorem dL_law_1510 : decode cL_law 1510 = .ok (.iconst 3, 1) := by decide +kernel
theorem dL_law_1511 : decode cL_law 1511 = .ok (.iadd, 1) := by decide +kernel
theorem dL_law_1512 : decode cL_law 1512 = .ok (.iaload, 1) := by decide +kernel
theorem dL_law_1513 : decode cL_law 1513 = .ok (.aload_n 0, 1) := by decide +kernel
theorem dL_law_1514 : decode cL_law 1514 = .ok (.iload 5, 2) := by decide +kernel
theorem dL_law_1516 : decode cL_law 1516 = .ok (.iconst 4, 1) := by decide +kernel
theorem dL_law_1517 : decode cL_law 1517 = .ok (.iadd, 1) := by decide +kernel
theorem dL_law_1518 : decode cL_law 1518 = .ok (.iaload, 1) := by decide +kernel
theorem dL_law_1519 : decode cL_law 1519 = .ok (.aload_n 0, 1) := by decide +kernel
theorem dL_law_1520 : decode cL_law 1520 = .ok (.iload 5, 2) := by decide +kernel
theorem dL_law_1522 : decode cL_law 1522 = .ok (.iconst 5, 1) := by decide +kernel
theorem dL_law_1523 : decode cL_law 1523 = .ok (.iadd, 1) := by decide +kernel
theorem dL_law_1524 : decode cL_law 1524 = .ok (.iaload, 1) := by decide +kernel
theorem dL_law_1525 : decode cL_law 1525 = .ok (.ifCond .eq 7, 3) := by decide +kernel
theorem dL_law_1528 : decode cL_law 1528 = .ok (.iconst 1, 1) := by decide +kernel
theorem dL_law_1529 : decode cL_law 1529 = .ok (.goto 4, 3) := by decide +kernel
theorem dL_law_1532 : decode cL_law 1532 = .ok (.iconst 0, 1) := by decide +kernel
theorem dL_law_1533 : decode cL_law 1533 = .ok (.aload 4, 2) := by decide +kernel
theorem dL_law_1535 : decode cL_law 1535 = .ok (.invokestatic 174, 3) := by decide +kernel
theorem dL_law_1538 : decode cL_law 1538 = .ok (.istore 6, 2) := by decide +kernel
theorem dL_law_1540 : decode cL_law 1540 = .ok (.aload_n 2, 1) := by decide +kernel
theorem dL_law_1541 : decode cL_law 1541 = .ok (.aload_n 0, 1) := by decide +kernel
theorem dL_law_1542 : decode cL_law 1542 = .ok (.iload 5, 2) := by decide +kernel
theorem dL_law_1544 : decode cL_law 1544 = .ok (.iconst 1, 1) := by decide +kernel
theorem dL_law_1545 : decode cL_law 1545 = .ok (.iadd, 1) := by decide +kernel
theorem dL_law_1546 : decode cL_law 1546 = .ok (.iaload, 1) := by decide +kernel
theorem dL_law_1547 : decode cL_law 1547 = .ok (.aload_n 0, 1) := by decide +kernel
theorem dL_law_1548 : decode cL_law 1548 = .ok (.iload 5, 2) := by decide +kernel
theorem dL_law_1550 : decode cL_law 1550 = .ok (.iconst 2, 1) := by decide +kernel
theorem dL_law_1551 : decode cL_law 1551 = .ok (.iadd, 1) := by decide +kernel
theorem dL_law_1552 : decode cL_law 1552 = .ok (.iaload, 1) := by decide +kernel
theorem dL_law_1553 : decode cL_law 1553 = .ok (.aload_n 0, 1) := by decide +kernel
theorem dL_law_1554 : decode cL_law 1554 = .ok (.iload 5, 2) := by decide +kernel
theorem dL_law_1556 : decode cL_law 1556 = .ok (.iconst 3, 1) := by decide +kernel
theorem dL_law_1557 : decode cL_law 1557 = .ok (.iadd, 1) := by decide +kernel
theorem dL_law_1558 : decode cL_law 1558 = .ok (.iaload, 1) := by decide +kernel
theorem dL_law_1559 : decode cL_law 1559 = .ok (.aload_n 0, 1) := by decide +kernel
theorem dL_law_1560 : decode cL_law 1560 = .ok (.iload 5, 2) := by decide +kernel
theorem dL_law_1562 : decode cL_law 1562 = .ok (.iconst 4, 1) := by decide +kernel
theorem dL_law_1563 : decode cL_law 1563 = .ok (.iadd, 1) := by decide +kernel
theorem dL_law_1564 : decode cL_law 1564 = .ok (.iaload, 1) := by decide +kernel
theorem dL_law_1565 : decode cL_law 1565 = .ok (.aload_n 0, 1) := by decide +kernel
theorem dL_law_1566 : decode cL_law 1566 = .ok (.iload 5, 2) := by decide +kernel
theorem dL_law_1568 : decode cL_law 1568 = .ok (.iconst 5, 1) := by decide +kernel
theorem dL_law_1569 : decode cL_law 1569 = .ok (.iadd, 1) := by decide +kernel
theorem dL_law_1570 : decode cL_law 1570 = .ok (.iaload, 1) := by decide +kernel
theorem dL_law_1571 : decode cL_law 1571 = .ok (.ifCond .eq 7, 3) := by decide +kernel
theorem dL_law_1574 : decode cL_law 1574 = .ok (.iconst 1, 1) := by decide +kernel
theorem dL_law_1575 : decode cL_law 1575 = .ok (.goto 4, 3) := by decide +kernel
theorem dL_law_1578 : decode cL_law 1578 = .ok (.iconst 0, 1) := by decide +kernel
theorem dL_law_1579 : decode cL_law 1579 = .ok (.invokevirtual 177, 3) := by decide +kernel
theorem dL_law_1582 : decode cL_law 1582 = .ok (.dstore 7, 2) := by decide +kernel
theorem dL_law_1584 : decode cL_law 1584 = .ok (.aload_n 2, 1) := by decide +kernel
theorem dL_law_1585 : decode cL_law 1585 = .ok (.invokevirtual 101, 3) := by decide +kernel
theorem dL_law_1588 : decode cL_law 1588 = .ok (.iload 6, 2) := by decide +kernel
theorem dL_law_1590 : decode cL_law 1590 = .ok (.if_icmp .eq 5, 3) := by decide +kernel
theorem dL_law_1593 : decode cL_law 1593 = .ok (.iconst 0, 1) := by decide +kernel
theorem dL_law_1594 : decode cL_law 1594 = .ok (.ireturn, 1) := by decide +kernel
theorem dL_law_1595 : decode cL_law 1595 = .ok (.iload 6, 2) := by decide +kernel
theorem dL_law_1597 : decode cL_law 1597 = .ok (.ifCond .ne 35, 3) := by decide +kernel
theorem dL_law_1600 : decode cL_law 1600 = .ok (.aload 4, 2) := by decide +kernel
theorem dL_law_1602 : decode cL_law 1602 = .ok (.iconst 0, 1) := by decide +kernel
theorem dL_law_1603 : decode cL_law 1603 = .ok (.daload, 1) := by decide +kernel
theorem dL_law_1604 : decode cL_law 1604 = .ok (.dload 7, 2) := by decide +kernel
theorem dL_law_1606 : decode cL_law 1606 = .ok (.dcmp .l, 1) := by decide +kernel
theorem dL_law_1607 : decode cL_law 1607 = .ok (.ifCond .eq 25, 3) := by decide +kernel
theorem dL_law_1610 : decode cL_law 1610 = .ok (.aload 4, 2) := by decide +kernel
theorem dL_law_1612 : decode cL_law 1612 = .ok (.iconst 0, 1) := by decide +kernel
theorem dL_law_1613 : decode cL_law 1613 = .ok (.daload, 1) := by decide +kernel
theorem dL_law_1614 : decode cL_law 1614 = .ok (.aload 4, 2) := by decide +kernel
theorem dL_law_1616 : decode cL_law 1616 = .ok (.iconst 0, 1) := by decide +kernel
theorem dL_law_1617 : decode cL_law 1617 = .ok (.daload, 1) := by decide +kernel
theorem dL_law_1618 : decode cL_law 1618 = .ok (.dcmp .l, 1) := by decide +kernel
theorem dL_law_1619 : decode cL_law 1619 = .ok (.ifCond .eq 11, 3) := by decide +kernel
theorem dL_law_1622 : decode cL_law 1622 = .ok (.dload 7, 2) := by decide +kernel
theorem dL_law_1624 : decode cL_law 1624 = .ok (.dload 7, 2) := by decide +kernel
theorem dL_law_1626 : decode cL_law 1626 = .ok (.dcmp .l, 1) := by decide +kernel
theorem dL_law_1627 : decode cL_law 1627 = .ok (.ifCond .ne 5, 3) := by decide +kernel
theorem dL_law_1630 : decode cL_law 1630 = .ok (.iconst 0, 1) := by decide +kernel
theorem dL_law_1631 : decode cL_law 1631 = .ok (.ireturn, 1) := by decide +kernel
theorem dL_law_1632 : decode cL_law 1632 = .ok (.goto 277, 3) := by decide +kernel
theorem dL_law_1635 : decode cL_law 1635 = .ok (.aload_n 1, 1) := by decide +kernel
theorem dL_law_1636 : decode cL_law 1636 = .ok (.aload_n 0, 1) := by decide +kernel
theorem dL_law_1637 : decode cL_law 1637 = .ok (.iload 5, 2) := by decide +kernel
theorem dL_law_1639 : decode cL_law 1639 = .ok (.iconst 1, 1) := by decide +kernel
theorem dL_law_1640 : decode cL_law 1640 = .ok (.iadd, 1) := by decide +kernel
theorem dL_law_1641 : decode cL_law 1641 = .ok (.iaload, 1) := by decide +kernel
theorem dL_law_1642 : decode cL_law 1642 = .ok (.aload_n 0, 1) := by decide +kernel
theorem dL_law_1643 : decode cL_law 1643 = .ok (.iload 5, 2) := by decide +kernel
theorem dL_law_1645 : decode cL_law 1645 = .ok (.iconst 2, 1) := by decide +kernel
theorem dL_law_1646 : decode cL_law 1646 = .ok (.iadd, 1) := by decide +kernel
theorem dL_law_1647 : decode cL_law 1647 = .ok (.iaload, 1) := by decide +kernel
theorem dL_law_1648 : decode cL_law 1648 = .ok (.aload_n 0, 1) := by decide +kernel
theorem dL_law_1649 : decode cL_law 1649 = .ok (.iload 5, 2) := by decide +kernel
theorem dL_law_1651 : decode cL_law 1651 = .ok (.iconst 3, 1) := by decide +kernel
theorem dL_law_1652 : decode cL_law 1652 = .ok (.iadd, 1) := by decide +kernel
theorem dL_law_1653 : decode cL_law 1653 = .ok (.iaload, 1) := by decide +kernel
theorem dL_law_1654 : decode cL_law 1654 = .ok (.aload_n 3, 1) := by decide +kernel
theorem dL_law_1655 : decode cL_law 1655 = .ok (.invokestatic 178, 3) := by decide +kernel
theorem dL_law_1658 : decode cL_law 1658 = .ok (.istore 6, 2) := by decide +kernel
theorem dL_law_1660 : decode cL_law 1660 = .ok (.aload_n 2, 1) := by decide +kernel
theorem dL_law_1661 : decode cL_law 1661 = .ok (.aload_n 0, 1) := by decide +kernel
theorem dL_law_1662 : decode cL_law 1662 = .ok (.iload 5, 2) := by decide +kernel
theorem dL_law_1664 : decode cL_law 1664 = .ok (.iconst 1, 1) := by decide +kernel
theorem dL_law_1665 : decode cL_law 1665 = .ok (.iadd, 1) := by decide +kernel
theorem dL_law_1666 : decode cL_law 1666 = .ok (.iaload, 1) := by decide +kernel
theorem dL_law_1667 : decode cL_law 1667 = .ok (.aload_n 0, 1) := by decide +kernel
theorem dL_law_1668 : decode cL_law 1668 = .ok (.iload 5, 2) := by decide +kernel
theorem dL_law_1670 : decode cL_law 1670 = .ok (.iconst 2, 1) := by decide +kernel
theorem dL_law_1671 : decode cL_law 1671 = .ok (.iadd, 1) := by decide +kernel
theorem dL_law_1672 : decode cL_law 1672 = .ok (.iaload, 1) := by decide +kernel
theorem dL_law_1673 : decode cL_law 1673 = .ok (.aload_n 0, 1) := by decide +kernel
theorem dL_law_1674 : decode cL_law 1674 = .ok (.iload 5, 2) := by decide +kernel
theorem dL_law_1676 : decode cL_law 1676 = .ok (.iconst 3, 1) := by decide +kernel
theorem dL_law_1677 : decode cL_law 1677 = .ok (.iadd, 1) := by decide +kernel
theorem dL_law_1678 : decode cL_law 1678 = .ok (.iaload, 1) := by decide +kernel
theorem dL_law_1679 : decode cL_law 1679 = .ok (.invokevirtual 180, 3) := by decide +kernel
theorem dL_law_1682 : decode cL_law 1682 = .ok (.istore 7, 2) := by decide +kernel
theorem dL_law_1684 : decode cL_law 1684 = .ok (.aload_n 2, 1) := by decide +kernel
theorem dL_law_1685 : decode cL_law 1685 = .ok (.invokevirtual 101, 3) := by decide +kernel
theorem dL_law_1688 : decode cL_law 1688 = .ok (.iload 6, 2) := by decide +kernel
theorem dL_law_1690 : decode cL_law 1690 = .ok (.if_icmp .eq 5, 3) := by decide +kernel
theorem dL_law_1693 : decode cL_law 1693 = .ok (.iconst 0, 1) := by decide +kernel
theorem dL_law_1694 : decode cL_law 1694 = .ok (.ireturn, 1) := by decide +kernel
theorem dL_law_1695 : decode cL_law 1695 = .ok (.iload 6, 2) := by decide +kernel
theorem dL_law_1697 : decode cL_law 1697 = .ok (.ifCond .ne 15, 3) := by decide +kernel
theorem dL_law_1700 : decode cL_law 1700 = .ok (.aload_n 3, 1) := by decide +kernel
theorem dL_law_1701 : decode cL_law 1701 = .ok (.iconst 0, 1) := by decide +kernel
theorem dL_law_1702 : decode cL_law 1702 = .ok (.laload, 1) := by decide +kernel
theorem dL_law_1703 : decode cL_law 1703 = .ok (.iload 7, 2) := by decide +kernel
theorem dL_law_1705 : decode cL_law 1705 = .ok (.i2l, 1) := by decide +kernel
theorem dL_law_1706 : decode cL_law 1706 = .ok (.lcmp, 1) := by decide +kernel
theorem dL_law_1707 : decode cL_law 1707 = .ok (.ifCond .eq 5, 3) := by decide +kernel
theorem dL_law_1710 : decode cL_law 1710 = .ok (.iconst 0, 1) := by decide +kernel
theorem dL_law_1711 : decode cL_law 1711 = .ok (.ireturn, 1) := by decide +kernel
theorem dL_law_1712 : decode cL_law 1712 = .ok (.goto 197, 3) := by decide +kernel
theorem dL_law_1715 : decode cL_law 1715 = .ok (.aload_n 1, 1) := by decide +kernel
theorem dL_law_1716 : decode cL_law 1716 = .ok (.aload_n 0, 1) := by decide +kernel
theorem dL_law_1717 : decode cL_law 1717 = .ok (.iload 5, 2) := by decide +kernel
theorem dL_law_1719 : decode cL_law 1719 = .ok (.iconst 1, 1) := by decide +kernel
theorem dL_law_1720 : decode cL_law 1720 = .ok (.iadd, 1) := by decide +kernel
theorem dL_law_1721 : decode cL_law 1721 = .ok (.iaload, 1) := by decide +kernel
theorem dL_law_1722 : decode cL_law 1722 = .ok (.aload_n 3, 1) := by decide +kernel
theorem dL_law_1723 : decode cL_law 1723 = .ok (.invokestatic 181, 3) := by decide +kernel
theorem dL_law_1726 : decode cL_law 1726 = .ok (.istore 6, 2) := by decide +kernel
theorem dL_law_1728 : decode cL_law 1728 = .ok (.aload_n 2, 1) := by decide +kernel
theorem dL_law_1729 : decode cL_law 1729 = .ok (.aload_n 0, 1) := by decide +kernel
theorem dL_law_1730 : decode cL_law 1730 = .ok (.iload 5, 2) := by decide +kernel
theorem dL_law_1732 : decode cL_law 1732 = .ok (.iconst 1, 1) := by decide +kernel
theorem dL_law_1733 : decode cL_law 1733 = .ok (.iadd, 1) := by decide +kernel
theorem dL_law_1734 : decode cL_law 1734 = .ok (.iaload, 1) := by decide +kernel
theorem dL_law_1735 : decode cL_law 1735 = .ok (.invokevirtual 183, 3) := by decide +kernel
theorem dL_law_1738 : decode cL_law 1738 = .ok (.istore 7, 2) := by decide +kernel
theorem dL_law_1740 : decode cL_law 1740 = .ok (.aload_n 2, 1) := by decide +kernel
theorem dL_law_1741 : decode cL_law 1741 = .ok (.invokevirtual 101, 3) := by decide +kernel
theorem dL_law_1744 : decode cL_law 1744 = .ok (.iload 6, 2) := by decide +kernel
theorem dL_law_1746 : decode cL_law 1746 = .ok (.if_icmp .eq 5, 3) := by decide +kernel
theorem dL_law_1749 : decode cL_law 1749 = .ok (.iconst 0, 1) := by decide +kernel
theorem dL_law_1750 : decode cL_law 1750 = .ok (.ireturn, 1) := by decide +kernel
theorem dL_law_1751 : decode cL_law 1751 = .ok (.iload 6, 2) := by decide +kernel
theorem dL_law_1753 : decode cL_law 1753 = .ok (.ifCond .ne 15, 3) := by decide +kernel
theorem dL_law_1756 : decode cL_law 1756 = .ok (.aload_n 3, 1) := by decide +kernel
theorem dL_law_1757 : decode cL_law 1757 = .ok (.iconst 0, 1) := by decide +kernel
theorem dL_law_1758 : decode cL_law 1758 = .ok (.laload, 1) := by decide +kernel
theorem dL_law_1759 : decode cL_law 1759 = .ok (.iload 7, 2) := by decide +kernel
theorem dL_law_1761 : decode cL_law 1761 = .ok (.i2l, 1) := by decide +kernel
theorem dL_law_1762 : decode cL_law 1762 = .ok (.lcmp, 1) := by decide +kernel
theorem dL_law_1763 : decode cL_law 1763 = .ok (.ifCond .eq 5, 3) := by decide +kernel
theorem dL_law_1766 : decode cL_law 1766 = .ok (.iconst 0, 1) := by decide +kernel
theorem dL_law_1767 : decode cL_law 1767 = .ok (.ireturn, 1) := by decide +kernel
theorem dL_law_1768 : decode cL_law 1768 = .ok (.goto 141, 3) := by decide +kernel
theorem dL_law_1771 : decode cL_law 1771 = .ok (.aload_n 1, 1) := by decide +kernel
theorem dL_law_1772 : decode cL_law 1772 = .ok (.aload_n 0, 1) := by decide +kernel
theorem dL_law_1773 : decode cL_law 1773 = .ok (.iload 5, 2) := by decide +kernel
theorem dL_law_1775 : decode cL_law 1775 = .ok (.iconst 1, 1) := by decide +kernel
theorem dL_law_1776 : decode cL_law 1776 = .ok (.iadd, 1) := by decide +kernel
theorem dL_law_1777 : decode cL_law 1777 = .ok (.iaload, 1) := by decide +kernel
theorem dL_law_1778 : decode cL_law 1778 = .ok (.aload_n 0, 1) := by decide +kernel
theorem dL_law_1779 : decode cL_law 1779 = .ok (.iload 5, 2) := by decide +kernel
theorem dL_law_1781 : decode cL_law 1781 = .ok (.iconst 2, 1) := by decide +kernel
theorem dL_law_1782 : decode cL_law 1782 = .ok (.iadd, 1) := by decide +kernel
theorem dL_law_1783 : decode cL_law 1783 = .ok (.iaload, 1) := by decide +kernel
theorem dL_law_1784 : decode cL_law 1784 = .ok (.aload_n 3, 1) := by decide +kernel
theorem dL_law_1785 : decode cL_law 1785 = .ok (.invokestatic 184, 3) := by decide +kernel
theorem dL_law_1788 : decode cL_law 1788 = .ok (.istore 6, 2) := by decide +kernel
theorem dL_law_1790 : decode cL_law 1790 = .ok (.aload_n 2, 1) := by decide +kernel
theorem dL_law_1791 : decode cL_law 1791 = .ok (.aload_n 0, 1) := by decide +kernel
theorem dL_law_1792 : decode cL_law 1792 = .ok (.iload 5, 2) := by decide +kernel
theorem dL_law_1794 : decode cL_law 1794 = .ok (.iconst 1, 1) := by decide +kernel
theorem dL_law_1795 : decode cL_law 1795 = .ok (.iadd, 1) := by decide +kernel
theorem dL_law_1796 : decode cL_law 1796 = .ok (.iaload, 1) := by decide +kernel
theorem dL_law_1797 : decode cL_law 1797 = .ok (.aload_n 0, 1) := by decide +kernel
theorem dL_law_1798 : decode cL_law 1798 = .ok (.iload 5, 2) := by decide +kernel
theorem dL_law_1800 : decode cL_law 1800 = .ok (.iconst 2, 1) := by decide +kernel
theorem dL_law_1801 : decode cL_law 1801 = .ok (.iadd, 1) := by decide +kernel
theorem dL_law_1802 : decode cL_law 1802 = .ok (.iaload, 1) := by decide +kernel
theorem dL_law_1803 : decode cL_law 1803 = .ok (.invokevirtual 186, 3) := by decide +kernel
theorem dL_law_1806 : decode cL_law 1806 = .ok (.istore 7, 2) := by decide +kernel
theorem dL_law_1808 : decode cL_law 1808 = .ok (.aload_n 2, 1) := by decide +kernel
theorem dL_law_1809 : decode cL_law 1809 = .ok (.invokevirtual 101, 3) := by decide +kernel
theorem dL_law_1812 : decode cL_law 1812 = .ok (.iload 6, 2) := by decide +kernel
theorem dL_law_1814 : decode cL_law 1814 = .ok (.if_icmp .eq 5, 3) := by decide +kernel
theorem dL_law_1817 : decode cL_law 1817 = .ok (.iconst 0, 1) := by decide +kernel
theorem dL_law_1818 : decode cL_law 1818 = .ok (.ireturn, 1) := by decide +kernel
theorem dL_law_1819 : decode cL_law 1819 = .ok (.iload 6, 2) := by decide +kernel
theorem dL_law_1821 : decode cL_law 1821 = .ok (.ifCond .ne 15, 3) := by decide +kernel
theorem dL_law_1824 : decode cL_law 1824 = .ok (.aload_n 3, 1) := by decide +kernel
theorem dL_law_1825 : decode cL_law 1825 = .ok (.iconst 0, 1) := by decide +kernel
theorem dL_law_1826 : decode cL_law 1826 = .ok (.laload, 1) := by decide +kernel
theorem dL_law_1827 : decode cL_law 1827 = .ok (.iload 7, 2) := by decide +kernel
theorem dL_law_1829 : decode cL_law 1829 = .ok (.i2l, 1) := by decide +kernel
theorem dL_law_1830 : decode cL_law 1830 = .ok (.lcmp, 1) := by decide +kernel
theorem dL_law_1831 : decode cL_law 1831 = .ok (.ifCond .eq 5, 3) := by decide +kernel
theorem dL_law_1834 : decode cL_law 1834 = .ok (.iconst 0, 1) := by decide +kernel
theorem dL_law_1835 : decode cL_law 1835 = .ok (.ireturn, 1) := by decide +kernel
theorem dL_law_1836 : decode cL_law 1836 = .ok (.goto 73, 3) := by decide +kernel
theorem dL_law_1839 : decode cL_law 1839 = .ok (.aload_n 1, 1) := by decide +kernel
theorem dL_law_1840 : decode cL_law 1840 = .ok (.aload_n 0, 1) := by decide +kernel
theorem dL_law_1841 : decode cL_law 1841 = .ok (.iload 5, 2) := by decide +kernel
theorem dL_law_1843 : decode cL_law 1843 = .ok (.iconst 1, 1) := by decide +kernel
theorem dL_law_1844 : decode cL_law 1844 = .ok (.iadd, 1) := by decide +kernel
theorem dL_law_1845 : decode cL_law 1845 = .ok (.iaload, 1) := by decide +kernel
theorem dL_law_1846 : decode cL_law 1846 = .ok (.aload_n 3, 1) := by decide +kernel
theorem dL_law_1847 : decode cL_law 1847 = .ok (.invokestatic 187, 3) := by decide +kernel
theorem dL_law_1850 : decode cL_law 1850 = .ok (.istore 6, 2) := by decide +kernel
theorem dL_law_1852 : decode cL_law 1852 = .ok (.aload_n 2, 1) := by decide +kernel
theorem dL_law_1853 : decode cL_law 1853 = .ok (.aload_n 0, 1) := by decide +kernel
theorem dL_law_1854 : decode cL_law 1854 = .ok (.iload 5, 2) := by decide +kernel
theorem dL_law_1856 : decode cL_law 1856 = .ok (.iconst 1, 1) := by decide +kernel
theorem dL_law_1857 : decode cL_law 1857 = .ok (.iadd, 1) := by decide +kernel
theorem dL_law_1858 : decode cL_law 1858 = .ok (.iaload, 1) := by decide +kernel
theorem dL_law_1859 : decode cL_law 1859 = .ok (.invokevirtual 189, 3) := by decide +kernel
theorem dL_law_1862 : decode cL_law 1862 = .ok (.istore 7, 2) := by decide +kernel
theorem dL_law_1864 : decode cL_law 1864 = .ok (.aload_n 2, 1) := by decide +kernel
theorem dL_law_1865 : decode cL_law 1865 = .ok (.invokevirtual 101, 3) := by decide +kernel
theorem dL_law_1868 : decode cL_law 1868 = .ok (.iload 6, 2) := by decide +kernel
theorem dL_law_1870 : decode cL_law 1870 = .ok (.if_icmp .eq 5, 3) := by decide +kernel
theorem dL_law_1873 : decode cL_law 1873 = .ok (.iconst 0, 1) := by decide +kernel
theorem dL_law_1874 : decode cL_law 1874 = .ok (.ireturn, 1) := by decide +kernel
theorem dL_law_1875 : decode cL_law 1875 = .ok (.iload 6, 2) := by decide +kernel
theorem dL_law_1877 : decode cL_law 1877 = .ok (.ifCond .ne 15, 3) := by decide +kernel
theorem dL_law_1880 : decode cL_law 1880 = .ok (.aload_n 3, 1) := by decide +kernel
theorem dL_law_1881 : decode cL_law 1881 = .ok (.iconst 0, 1) := by decide +kernel
theorem dL_law_1882 : decode cL_law 1882 = .ok (.laload, 1) := by decide +kernel
theorem dL_law_1883 : decode cL_law 1883 = .ok (.iload 7, 2) := by decide +kernel
theorem dL_law_1885 : decode cL_law 1885 = .ok (.i2l, 1) := by decide +kernel
theorem dL_law_1886 : decode cL_law 1886 = .ok (.lcmp, 1) := by decide +kernel
theorem dL_law_1887 : decode cL_law 1887 = .ok (.ifCond .eq 5, 3) := by decide +kernel
theorem dL_law_1890 : decode cL_law 1890 = .ok (.iconst 0, 1) := by decide +kernel
theorem dL_law_1891 : decode cL_law 1891 = .ok (.ireturn, 1) := by decide +kernel
theorem dL_law_1892 : decode cL_law 1892 = .ok (.goto 17, 3) := by decide +kernel
theorem dL_law_1895 : decode cL_law 1895 = .ok (.aload_n 1, 1) := by decide +kernel
theorem dL_law_1896 : decode cL_law 1896 = .ok (.invokevirtual 190, 3) := by decide +kernel
theorem dL_law_1899 : decode cL_law 1899 = .ok (.aload_n 2, 1) := by decide +kernel
theorem dL_law_1900 : decode cL_law 1900 = .ok (.invokevirtual 194, 3) := by decide +kernel
theorem dL_law_1903 : decode cL_law 1903 = .ok (.lcmp, 1) := by decide +kernel
theorem dL_law_1904 : decode cL_law 1904 = .ok (.ifCond .eq 5, 3) := by decide +kernel
theorem dL_law_1907 : decode cL_law 1907 = .ok (.iconst 0, 1) := by decide +kernel
theorem dL_law_1908 : decode cL_law 1908 = .ok (.ireturn, 1) := by decide +kernel
theorem dL_law_1909 : decode cL_law 1909 = .ok (.iinc 5 6, 3) := by decide +kernel
theorem dL_law_1912 : decode cL_law 1912 = .ok (.goto (-1884), 3) := by decide +kernel
theorem dL_law_1915 : decode cL_law 1915 = .ok (.iconst 1, 1) := by decide +kernel
theorem dL_law_1916 : decode cL_law 1916 = .ok (.ireturn, 1) := by decide +kernel
end
section
/-! ===== a method that returns (mc, ms) or throws (xc, xs): the laws vx_ of the printed names, with two counts ===== -/
section VYA
def vy_Q (Qc : Array Value → State → Outcome → State → Prop) (XC : String → State → State → Prop) (mc ms xc xs : Nat) (free : Addr → Prop) : Array Value → State → Outcome → State → Prop := fun a st o t =>
  (Qc a st o t ∧ ∃ L, FrameEnd st o t L mc ms ∧ ∀ q ∈ L, free q.base) ∨ ∃ q, o = .threw q ∧ vx_T XC st q t xc xs free
def vy_Met (l : Launch) (y : MethodName) (ws : List Cond) (rm : Room) (Pc : Array Value → State → Prop) (Qc : Array Value → State → Outcome → State → Prop) (XC : String → State → State → Prop) (mc ms xc xs : Nat) (free : Addr → Prop) : Prop :=
  MetFree l y (headSpec ws rm) Pc (fun _ _ _ _ _ => True) (vy_Q Qc XC mc ms xc xs free)
section Payer
variable {l : Launch} {R : Room} {p : Program} {e : Env} {below : List Frame} {s : State} {sargs : Array Value} {y : MethodName} {len W9 : Nat}
theorem vy_back {ws : List Cond} {rm : Room} {Pc : Array Value → State → Prop} {Qc : Array Value → State → Outcome → State → Prop} {XC : String → State → State → Prop} {rc rs mc ms xc xs : Nat} {free : Addr → Prop} {bytes : ByteArray} {maxL : Nat} {ret : Option FieldType}
    (hM : vy_Met l y ws rm Pc Qc XC mc ms xc xs free) (hblind : FrameBlind Pc) (hrc : rm.cells = rc) (hrs : rm.slots = rs)
    (hframes : rm.frames + 1 ≤ R.frames) (hlocals : W9 + (maxL + 11) + rm.locals ≤ R.locals)
    (hws : ∀ w ∈ ws, ∀ a' U, s.WarmedH U.vm → w.before a' U = true) (hcode : Cond.code y bytes maxL ret ∈ ws) (hinit : ∀ a' U, s.WarmedH U.vm → (Cond.initialized y.cls).before a' U = true) :
    vx_Back l R p e below s sargs y len W9 (PreOf R rc rs Pc) (PostOf Qc mc ms free) (vx_Post XC xc xs free) := by
  intro m meth c A g ig mk a X hg hsize hdg hW hn hp
  have h1 : (headSpec ws rm).pre.before a A.U = true := atoms_intro fun w hw => hws w hw _ _ X.warmed
  have h2 : (Cond.code y bytes maxL ret).before a A.U = true := hws _ hcode _ _ X.warmed
  have h3 : (Cond.initialized y.cls).before a A.U = true := hinit _ _ X.warmed
  have h4 : A.cells + (headSpec ws rm).room.cells ≤ R.cells := by rw [show (headSpec ws rm).room.cells = rc from hrc]; exact hp.1
  have h5 : A.slots + (headSpec ws rm).room.slots ≤ R.slots := by rw [show (headSpec ws rm).room.slots = rs from hrs]; exact hp.2.1
  have hPc : Pc a (A.U.calling g mk a) := hblind _ _ _ _ hp.2.2
  obtain ⟨U, Ls, c0, s0⟩ := A
  dsimp only [Pt.U, Pt.locs, Pt.cells, Pt.slots] at h1 h2 h3 h4 h5 X hn hPc ⊢
  obtain ⟨methY, cY, hmY, hcY, -, hlY, -, -, -, -⟩ := Cond.code_spec hn h2
  obtain ⟨kY, hkY, -⟩ := className_of_methodNamed hn
  have hinitY : kY.init = .initialized := Cond.initialized_spec (findClass_of_methodNamed hn) hkY h3
  have h : At U g.method c below := by rw [hg]; exact X.here
  have hlocals9 : W9 + (maxL + 11) + (headSpec ws rm).room.locals ≤ R.locals := hlocals
  have happ : (headSpec ws rm).appliesLoose y e.platform (U.calling g mk a) = true :=
    Spec.appliesLoose_calling (g := g) h hdg hn hkY hinitY
      (X.room_calling (g := g) (R' := (headSpec ws rm).room) hsize hmY hcY hframes (by rw [hlY]; omega) h4 h5) h1
  obtain ⟨mid, hmid⟩ := h.above
  have hfr : (U.setTop g).frames = (.java g :: mid) ++ below := by rw [State.frames_setTop' g h.top, hmid]; rfl
  obtain ⟨o, s₂, hsteps, -, hend, hq⟩ := Steps.callFree hM p X.admits X.cas X.clock (acts := []) hfr happ hPc trivial
  have hq' : vy_Q Qc XC mc ms xc xs free a (U.calling g mk a) o s₂ := hq
  rw [State.frames_setTop' g h.top] at hend
  obtain ⟨g₀, hg0⟩ := Option.isSome_iff_exists.mp h.top
  obtain ⟨r, hr⟩ := State.topJava?_eq_some.mp hg0
  have hr' : (({ U with heap := s₂.heap, slotsUsed := s₂.slotsUsed } : State).setVm s₂.vm).frames = .java g₀ :: r := hr
  rcases hq' with ⟨hqc, L, hfe, hL⟩ | ⟨q, rfl, E, ce, L, hx, hce, hcv, hcl, hW₂, hsm, hL⟩
  · obtain ⟨⟨v, rfl⟩, hW₂, e2, q2, q3, q4, q5, q6⟩ := id hfe
    have e3 : s₂ = ({ (U.calling g mk a).setFrames s₂.frames with heap := s₂.heap, slotsUsed := s₂.slotsUsed } : State).setVm s₂.vm := by
      have : s₂ = ({ s₂ with vm := (U.calling g mk a).vm } : State).setVm s₂.vm := rfl
      rw [e2] at this
      exact this
    obtain ⟨c₂, i₂, len₂, hc₂, hd₂, hf₂⟩ := hend
    have hW' : U.WarmedH s₂.vm := hW₂
    have hcc : c₂ = c := by
      have h1 : s₂.code? g.method = U.code? g.method := by
        rw [State.code?_eq, State.code?_eq, hW'.alike.method?]
      exact Option.some.inj (hc₂.symm.trans (h1.trans h.code))
    subst hcc
    have hlen : len₂ = len := by rw [hdg] at hd₂; cases hd₂; rfl
    subst hlen
    have hs₂ : s₂ = (({ U with heap := s₂.heap, slotsUsed := s₂.slotsUsed } : State).setVm s₂.vm).setTop { g with pc := g.pc + len₂, stack := v.toList ++ g.stack } := by
      refine e3.trans ?_
      rw [hf₂, State.calling_eq h.top, State.setFrames_setFrames, State.setTop_of_frames _ hr', hr]
      rfl
    have hsame : U.sameButNew ({ U with heap := s₂.heap, slotsUsed := s₂.slotsUsed } : State) L mc ms := by
      refine ⟨?_, q2, q3, q4, q5, q6⟩
      obtain ⟨t, ht, -⟩ := State.frames_cons hr
      show ({ U with heap := s₂.heap, slotsUsed := s₂.slotsUsed } : State) = { U.setFrames U.frames with heap := s₂.heap, slotsUsed := s₂.slotsUsed }
      rw [State.setFrames_self ht]
    subst hg
    refine Or.inl ⟨v, ⟨(({ U with heap := s₂.heap, slotsUsed := s₂.slotsUsed } : State).setVm s₂.vm), Ls ++ L, c0 + mc, s0 + ms⟩,
      ⟨X.admits, X.cas, X.clock, X.frames, X.room, X.hears, X.method, X.code, (X.here.setHeapUsed s₂.heap s₂.slotsUsed).setVm hW'.alike, X.tail, State.WarmedH.trans X.warmed hW', X.limits, X.bytes, X.same.trans (hsame.setVm s.vm)⟩,
      ⟨g, mk, s₂, L, rfl, rfl, hqc, rfl, hL, rfl, rfl⟩, ?_⟩
    show Steps p.tables e below _ ((({ U with heap := s₂.heap, slotsUsed := s₂.slotsUsed } : State).setVm s₂.vm).setTop { g with pc := g.pc + len₂, stack := v.toList ++ g.stack })
    rw [← hs₂]
    exact hsteps
  · obtain ⟨e2, q2, q3, q4, q5, q6⟩ := id hsm
    have e3 : s₂ = ({ (U.calling g mk a).setFrames s₂.frames with heap := s₂.heap, slotsUsed := s₂.slotsUsed } : State).setVm s₂.vm := by
      have : s₂ = ({ s₂ with vm := (U.calling g mk a).vm } : State).setVm s₂.vm := rfl
      rw [e2] at this
      exact this
    have hf₂ : s₂.frames = .throwing q :: .java g :: U.frames.tail := hend
    have hW' : U.WarmedH s₂.vm := hW₂
    have hs₂ : s₂ = ((({ U with heap := s₂.heap, slotsUsed := s₂.slotsUsed } : State).setVm s₂.vm).setTop g).pushFrame (.throwing q) := by
      refine e3.trans ?_
      rw [hf₂, State.calling_eq h.top, State.setFrames_setFrames, State.pushFrame, State.frames_setTop _ hr', State.setTop_of_frames _ hr', State.setFrames_setFrames, hr]
      rfl
    have hsame : U.sameButNew ({ U with heap := s₂.heap, slotsUsed := s₂.slotsUsed } : State) L xc xs := by
      refine ⟨?_, q2, q3, q4, q5, q6⟩
      obtain ⟨t, ht, -⟩ := State.frames_cons hr
      show ({ U with heap := s₂.heap, slotsUsed := s₂.slotsUsed } : State) = { U.setFrames U.frames with heap := s₂.heap, slotsUsed := s₂.slotsUsed }
      rw [State.setFrames_self ht]
    subst hg
    refine Or.inr ⟨q, ⟨(({ U with heap := s₂.heap, slotsUsed := s₂.slotsUsed } : State).setVm s₂.vm), Ls ++ L, c0 + xc, s0 + xs⟩,
      ⟨X.admits, X.cas, X.clock, X.frames, X.room, X.hears, X.method, X.code, (X.here.setHeapUsed s₂.heap s₂.slotsUsed).setVm hW'.alike, X.tail, State.WarmedH.trans X.warmed hW', X.limits, X.bytes, X.same.trans (hsame.setVm s.vm)⟩,
      ⟨g, mk, s₂, L, E, ce, rfl, rfl, hx, hce, hcv, hcl, rfl, hL, rfl, rfl⟩, ?_⟩
    show Steps p.tables e below _ (((({ U with heap := s₂.heap, slotsUsed := s₂.slotsUsed } : State).setVm s₂.vm).setTop g).pushFrame (.throwing q))
    rw [← hs₂]
    exact hsteps
end Payer
def vy_Run (p : Program) (l : Launch) (e : Env) (R : Room) (s : State) (m : MethodId) (args : Array Value) (below : List Frame) (meth : Method) (c : Code) (H : Heap) (locs : List Loc) (cells slots mc ms xc xs : Nat) (g : JFrame) (rest : List Value) (Qa : State → Outcome → State → Prop) (XC : String → State → State → Prop) (free : Addr → Prop) : Prop :=
  ∀ T : State, T.heap = H → Stand p l e R s m args below meth c T locs cells slots →
    (∃ (v : Option Value) (st₀ t T' : State) (L : List Loc), st₀.heap = H ∧ Stand p l e R s m args below meth c T' (locs ++ L) (cells + mc) (slots + ms) ∧ (∀ q ∈ L, free q.base) ∧ T'.heap = t.heap ∧ T'.vm = t.vm ∧ Qa st₀ (.returned v) t ∧
      Goes p e below T g T' { g with pc := g.pc + 3, stack := v.toList ++ rest }) ∨
    (∃ (q : Addr) (st₀ t T' : State) (L : List Loc) (E : String) (ce : Cell), st₀.heap = H ∧ Stand p l e R s m args below meth c T' (locs ++ L) (cells + xc) (slots + xs) ∧ (∀ z ∈ L, free z.base) ∧ T'.heap = t.heap ∧ T'.vm = t.vm ∧ XC E st₀ t ∧ t.heap[q]? = some ce ∧ ce.vm = .none ∧ s.vm.findClass E = some ce.cls ∧
      Steps p.tables e below (T.setTop g) ((T'.setTop { g with stack := rest }).pushFrame (.throwing q)))
section Runs
variable {p : Program} {l : Launch} {e : Env} {R : Room} {s : State} {m : MethodId} {args : Array Value} {below : List Frame} {meth : Method} {c : Code} {H : Heap} {locs : List Loc} {cells slots : Nat}
variable {y : MethodName} {bytes cc : ByteArray} {maxL nL rc rs mc ms xc xs n index : Nat} {ret : Option FieldType} {ws : List Cond} {rm : Room} {Pc : Array Value → State → Prop} {Qc : Array Value → State → Outcome → State → Prop} {XC : String → State → State → Prop} {free : Addr → Prop} {Ts : List Cond} {own C : String} {b : Addr} {As rest : List Value} {g : JFrame}
theorem vy_callBack (cb : CallB R s args own index y bytes maxL ret ws rm rc rs n) (hM : vy_Met l y ws rm Pc Qc XC mc ms xc xs free) (hbl : FrameBlind Pc) : vx_Back l R p e below s args y 3 8 (PreOf R rc rs Pc) (PostOf Qc mc ms free) (vx_Post XC xc xs free) := by
  obtain ⟨hrc, hrs, hfr, hlo, hws, hcw, -, hini, -⟩ := cb
  exact vy_back (bytes := bytes) (maxL := maxL) (ret := ret) hM hbl hrc hrs hfr hlo hws hcw (fun a' U hW => word_at hW (Or.inl (by first | rfl | simp [Cond.onTables, Cond.keeps, Cond.steady])) hini)
theorem vy_runV (S : CallFix p m c cc nL s args Ts own) (hM : vy_Met l y ws rm Pc Qc XC mc ms xc xs free) (cw : CallW R s args own C index y bytes maxL ret ws rm rc rs n) (hp : PreV s H C b Pc As)
    (hg : g.method = m) (hn : As.length = n) (hsize : g.locals.size = nL) (hstack : g.stack = As.reverse ++ .ref b :: rest) (hW : 2 * g.monitorRoom + (rest.map fun v => v.category).sum ≤ 8) (hdg : decode cc g.pc = .ok (.invokevirtual index, 3)) (hf : cells + rc ≤ R.cells ∧ slots + rs ≤ R.slots) :
    vy_Run p l e R s m args below meth c H locs cells slots mc ms xc xs g rest (Qc (Value.ref b :: As).toArray) XC free := by
  have hK : vx_Back l R p e below s args y 3 8 (PreOf R rc rs Pc) (PostOf Qc mc ms free) (vx_Post XC xc xs free) := vy_callBack cw.1 hM hp.1
  obtain ⟨⟨-, -, -, -, -, -, hcode, -, hy, hlen, hl⟩, hin, hse⟩ := cw
  obtain ⟨hx, hb, hml, ho, -⟩ := S
  obtain ⟨-, ⟨cellB, hcB, hoB, hclB⟩, hPc⟩ := hp
  intro T hT X
  rcases vx_callV X hx (C := C) (bytes := bytes) (maxL := maxL) (ret := ret) ho hl hin hse hcode hy hK (by rw [hT]; exact hcB) hoB hclB hg (hsize.trans hml.symm) (argsL := As) (rest := rest) (fun sig h => hn.trans (hlen sig h)) hstack hW (by rw [hb]; exact hdg)
    (fun vm₁ hW₁ => ⟨hf.1, hf.2, hPc (T.setVm vm₁) hT hW₁⟩) with ⟨v, vm₁, ⟨U', l2, c2, s2⟩, hW₁, X', ⟨g', mk, t, L, e1, e2, hq, h1, hL, h2, h3⟩, st⟩ | ⟨q, vm₁, ⟨U', l2, c2, s2⟩, hW₁, X', ⟨g', mk, t, L, E, ce, e1, e2, hq, hce, hcv, hcl, h1, hL, h2, h3⟩, st⟩
  · dsimp only [Pt.U, Pt.locs, Pt.cells, Pt.slots] at X' e1 e2 h1 h2 h3 st
    subst h1; subst h2; subst h3
    exact Or.inl ⟨v, (T.setVm vm₁).calling g' mk (Value.ref b :: As).toArray, t, U', L, hT, X', hL, e1, e2, hq, st⟩
  · dsimp only [Pt.U, Pt.locs, Pt.cells, Pt.slots] at X' e1 e2 h1 h2 h3 st hcl
    subst h1; subst h2; subst h3
    exact Or.inr ⟨q, (T.setVm vm₁).calling g' mk (Value.ref b :: As).toArray, t, U', L, E, ce, hT, X', hL, e1, e2, hq, hce, hcv, vx_cls hW₁ hcl, st⟩
theorem vy_runS (S : CallFix p m c cc nL s args Ts own) (hM : vy_Met l y ws rm Pc Qc XC mc ms xc xs free) (cw : CallB R s args own index y bytes maxL ret ws rm rc rs n ∧ (Cond.static y).before args s = true) (hp : PreS s H Pc As)
    (hg : g.method = m) (hn : As.length = n) (hsize : g.locals.size = nL) (hstack : g.stack = As.reverse ++ rest) (hW : 2 * g.monitorRoom + (rest.map fun v => v.category).sum ≤ 8) (hdg : decode cc g.pc = .ok (.invokestatic index, 3)) (hf : cells + rc ≤ R.cells ∧ slots + rs ≤ R.slots) :
    vy_Run p l e R s m args below meth c H locs cells slots mc ms xc xs g rest (Qc As.toArray) XC free := by
  have hK : vx_Back l R p e below s args y 3 8 (PreOf R rc rs Pc) (PostOf Qc mc ms free) (vx_Post XC xc xs free) := vy_callBack cw.1 hM hp.1
  obtain ⟨⟨-, -, -, -, -, -, hcode, hini, hy, hlen, hl⟩, hstt⟩ := cw
  obtain ⟨hx, hb, hml, ho, -⟩ := S
  intro T hT X
  rcases vx_callS X hx (bytes := bytes) (maxL := maxL) (ret := ret) ho hl hstt hini hcode hy hK hg (hsize.trans hml.symm) (argsL := As) (rest := rest) (fun sig h => hn.trans (hlen sig h)) hstack hW (by rw [hb]; exact hdg)
    (fun vm₁ hW₁ => ⟨hf.1, hf.2, hp.2 (T.setVm vm₁) hT hW₁⟩) with ⟨v, vm₁, ⟨U', l2, c2, s2⟩, hW₁, X', ⟨g', mk, t, L, e1, e2, hq, h1, hL, h2, h3⟩, st⟩ | ⟨q, vm₁, ⟨U', l2, c2, s2⟩, hW₁, X', ⟨g', mk, t, L, E, ce, e1, e2, hq, hce, hcv, hcl, h1, hL, h2, h3⟩, st⟩
  · dsimp only [Pt.U, Pt.locs, Pt.cells, Pt.slots] at X' e1 e2 h1 h2 h3 st
    subst h1; subst h2; subst h3
    exact Or.inl ⟨v, (T.setVm vm₁).calling g' mk As.toArray, t, U', L, hT, X', hL, e1, e2, hq, st⟩
  · dsimp only [Pt.U, Pt.locs, Pt.cells, Pt.slots] at X' e1 e2 h1 h2 h3 st hcl
    subst h1; subst h2; subst h3
    exact Or.inr ⟨q, (T.setVm vm₁).calling g' mk As.toArray, t, U', L, E, ce, hT, X', hL, e1, e2, hq, hce, hcv, vx_cls hW₁ hcl, st⟩
end Runs
section Ends
variable {p : Program} {l : Launch} {e : Env} {R : Room} {s : State} {m : MethodId} {args : Array Value} {below : List Frame} {meth : Method} {c : Code} {H : Heap} {locs : List Loc} {cells slots : Nat} {Q : State → Prop}
variable {mc ms : Nat} {free : Addr → Prop} {A0 A1 : Nat → Prop} {H0 : Heap} {a : Array Value} {ls : Array Slot} {st0 rest : List Value}
variable {Qc : Array Value → State → Outcome → State → Prop} {XC : String → State → State → Prop}
def vy_MQ (below : List Frame) (Qc : Array Value → State → Outcome → State → Prop) (XC : String → State → State → Prop) (a : Array Value) (s : State) (mc ms xc xs : Nat) (free : Addr → Prop) : State → Prop := fun t =>
  ∃ o, t.status = .running ∧ Ended t below o ∧ vy_Q Qc XC mc ms xc xs free a s o t
theorem vy_ret {g : JFrame} {mc ms xc xs : Nat} (k : W p l e R s m args below meth c H locs cells slots (MQ below Qc args s mc ms free) g) : W p l e R s m args below meth c H locs cells slots (vy_MQ below Qc XC args s mc ms xc xs free) g := by
  intro T hT X
  obtain ⟨t, a1, o, b1, b2, b3, b4⟩ := k T hT X
  exact ⟨t, a1, o, b1, b2, Or.inl ⟨b3, b4⟩⟩
theorem vy_out {pc : Nat} {E : String} {ce : Cell} {q : Addr} {mc ms xc xs : Nat} (hout : ∀ x ∈ c.exceptionTable.toList, covers x pc = false) (hlocks : meth.locks = false) (hcell : H[q]? = some ce) (hv : ce.vm = .none) (hcl : s.vm.findClass E = some ce.cls)
    (hx : ∀ t : State, t.heap = H → s.vm.Alike t.vm → XC E s t) (hf : ∀ z ∈ locs, free z.base) (hc : cells ≤ xc) (hs : slots ≤ xs) :
    vx_W p l e R s m args below meth c H locs cells slots (vy_MQ below Qc XC args s mc ms xc xs free) (F0 m pc ls rest) q := by
  intro T hT X
  obtain ⟨st1, hrun, hend, hW, hsm⟩ := X.leaveThrown q (g := F0 m pc ls rest) rfl rfl rfl hout hlocks
  have hcell9 : (T.setFrames (.throwing q :: below)).heap[q]? = some ce := by
    show T.heap[q]? = some ce
    rw [hT]; exact hcell
  exact ⟨_, st1, .threw q, hrun, hend, Or.inr ⟨q, rfl, E, ce, locs, hx _ hT hW.alike, hcell9, hv, hcl, hW, hsm.mono hc hs, hf⟩⟩
/-- a throw's end, out of the printed one -/
theorem vy_thrown {g : JFrame} {mc ms xc xs : Nat} (k : W p l e R s m args below meth c H locs cells slots (vx_MQ below (fun _ _ _ _ => False) XC args s xc xs free) g) : W p l e R s m args below meth c H locs cells slots (vy_MQ below Qc XC args s mc ms xc xs free) g := by
  intro T hT X
  obtain ⟨t, a1, o, b1, b2, b3⟩ := k T hT X
  exact ⟨t, a1, o, b1, b2, b3.elim (fun h => h.1.elim) Or.inr⟩
end Ends
section Bodies
variable {l : Launch}
theorem vy_ofW {y : MethodName} {ws ws' : List Cond} {rm : Room} {Pc : Array Value → State → Prop} {Qc : Array Value → State → Outcome → State → Prop} {XC : String → State → State → Prop} {mc ms xc xs : Nat} {free : Addr → Prop} {cc : ByteArray} {maxL : Nat} {ret : Option FieldType}
    (hy : plainName y.cls = true) (hw : ws = Cond.code y cc maxL ret :: ws')
    (body : ∀ p e s m args below meth c s₁, BodyLoose p l y (headSpec ws rm) cc maxL ret e s m args below meth c s₁ → c.maxLocals = maxL → (∀ x ∈ c.exceptionTable.toList, False) → Pc args s →
      W p l e (headSpec ws rm).room s m args below meth c s.heap [] 0 0 (vy_MQ below Qc XC args s mc ms xc xs free) (entryFrame m args maxL)) : vy_Met l y ws rm Pc Qc XC mc ms xc xs free := by
  refine MetFree.of_bodyS (code := cc) (maxLocals := maxL) (ret := ret) hy ?_ ?_
  · intro args s m h hn
    obtain ⟨meth, c, h1, h2, h3, h4, h5, h6, -, -⟩ := Cond.code_spec hn (atoms_spec (ws := ws) h _ (by rw [hw]; exact List.mem_cons_self))
    exact ⟨meth, c, h1, h2, h3, h4, h5, h6⟩
  · intro p e s m args below meth c s₁ B hml hP _
    have hh0 : s₁.heap = s.heap := by rw [B.state]; rfl
    have ht : ∀ x ∈ c.exceptionTable.toList, False := by
      obtain ⟨meth9, c9, h1, h2, -, -, -, -, h7, -⟩ := Cond.code_spec B.named (atoms_spec (ws := ws) B.pre _ (by rw [hw]; exact List.mem_cons_self))
      cases Option.some.inj (h1.symm.trans B.method)
      cases Option.some.inj (h2.symm.trans (Stand.of_body B).code)
      intro x hx
      rw [Array.isEmpty_iff.mp h7] at hx
      cases hx
    obtain ⟨t, a1, o, b1, b2, b3⟩ := body p e s m args below meth c s₁ B hml ht hP s₁ hh0 (Stand.of_body B)
    exact ⟨t, o, a1, b1, b2, b3⟩
end Bodies
end VYA
end
section
/-- the good words of the tables: every method's -/
def mLA : List Cond := lw_tbl.filter goodWord
theorem mLA_in {w : Cond} (h : w ∈ lw_tbl) (hg : goodWord w = true) : w ∈ mLA := List.mem_filter.mpr ⟨h, hg⟩
theorem mLA_tbl {w : Cond} (h : w ∈ mLA) : w ∈ lw_tbl := (List.mem_filter.mp h).1
theorem mLA_good {w : Cond} (h : w ∈ mLA) : (w.onTables && w.keeps) = true ∨ ∃ ty, w = .arrayClass ty := good_of_word (List.mem_filter.mp h).2
/-- by its place among the tables' words -/
theorem mLA_at {w : Cond} (i : Nat) (h : tables_1[i]? = some w) (hg : goodWord w = true) : w ∈ mLA := mLA_in (List.mem_append_right _ (List.mem_of_getElem? h)) hg
/-! ===== THE MACHINE OVER A GHOST MEMORY: definitions, the facts that every method is given, contracts ===== -/
abbrev Mem : Type := Nat → Option va_E
/-- (the classes and their fields, the array classes, addresses: 0 where the law's own cells begin; 1 the empty element data; 2, 3 the two tables) -/
abbrev Cfg : Type := va_G × (Nat → ClassId) × (Nat → Nat)
abbrev mFA (K : Cfg) : Nat → Prop := fun q => K.2.2 0 ≤ q
def mh (K : Cfg) (M : Mem) (H : Heap) : Prop := ∀ (a : Nat) (e : va_E), M a = some e → K.2.2 0 ≤ a ∧ va_at K.1 vwCl (a, e) H
abbrev mTys (K : Cfg) : List (ClassId × FieldType) := [(K.2.1 0, .int), (K.2.1 1, .long), (K.2.1 2, .double), (K.2.1 3, .boolean), (K.2.1 4, .object "ChuteLoft$Jumper"), (K.2.1 5, .object "ChuteLoft$Rig"), (K.2.1 6, .object "ChuteLoft$Jump"), (K.2.1 7, .object "java/lang/Object"), (K.2.1 8, .array .boolean)]
def mUp (M : Mem) (a : Nat) (e : va_E) : Mem := fun q => if q = a then some e else M q
theorem mUp_self (M : Mem) (a : Nat) (e : va_E) : mUp M a e a = some e := if_pos rfl
theorem mUp_ne {M : Mem} {a q : Nat} {e : va_E} (h : q ≠ a) : mUp M a e q = M q := if_neg h
theorem mh.lt {K : Cfg} {M : Mem} {H : Heap} (h : mh K M H) {a : Nat} {e : va_E} (ha : M a = some e) : a < H.size := (h a e ha).2.lt
theorem mh.put {K : Cfg} {M : Mem} {H H1 : Heap} (h : mh K M H) {a : Nat} {e : va_E} (hA : K.2.2 0 ≤ a) (he : va_at K.1 vwCl (a, e) H1) (oq : ∀ q : Nat, q ≠ a → H1[q]? = H[q]?) : mh K (mUp M a e) H1 := by
  intro q e1 h1
  unfold mUp at h1
  split at h1
  · rename_i hq
    subst hq
    cases h1
    exact ⟨hA, he⟩
  · rename_i hq
    exact ⟨(h q e1 h1).1, (h q e1 h1).2.kept (oq q hq)⟩
theorem mh.kept {K : Cfg} {M : Mem} {H H1 : Heap} (h : mh K M H) (o1 : ∀ q : Nat, q < H.size → H1[q]? = H[q]?) : mh K M H1 := fun q e h1 => ⟨(h q e h1).1, (h q e h1).2.kept (o1 q (h.lt h1))⟩
theorem va_P1 {D : va_G} {cl : List vw_C} {q : Nat × va_E} {H : Heap} (h : va_at D cl q H) : va_P D cl [q] H := by
  intro k x hx
  have hk : k < 1 := (List.getElem?_eq_some_iff.mp hx).1
  rw [show k = 0 by omega] at hx
  cases hx
  exact h
theorem va_AOA.spec {t : FieldType} {args : Array Value} {s : State} (h : (Cond.arrayOver (.array t)).before args s = true) :
    ∃ comp c k, s.vm.findClass (FieldType.array t).toString = some comp ∧ (s.vm.classes.findIdx? fun (x : Class) => match x.kind with | .array component _ => component == comp | _ => false) = some c ∧ s.vm.classes[c]? = some k ∧ k.kind = .array comp (.array t) ∧ s.vm.findClass ("[" ++ (FieldType.array t).toString) = some c := by
  simp only [Cond.before, Cond.holds, Cond.value, beq_iff_eq] at h
  cases hc : s.vm.findClass (FieldType.array t).toString with
  | none => simp [hc] at h
  | some comp =>
    simp only [hc, Option.bind_some, Option.bind_eq_some_iff, Option.map_eq_some_iff] at h
    obtain ⟨c, hi, k, hk, hb⟩ := h
    obtain ⟨hlt, hp, -⟩ := Array.findIdx?_eq_some_iff_getElem.mp hi
    have hkk : s.vm.classes[c] = k := (Array.getElem?_eq_some_iff.mp hk).2
    rw [hkk] at hp
    cases hkind : k.kind with
    | array component ty =>
      rw [hkind] at hb hp
      simp at hb hp
      exact ⟨comp, c, k, rfl, hi, hk, by rw [hkind, hp, hb.1], hb.2⟩
    | _ => rw [hkind] at hb; simp at hb
theorem va_AOA.moved {t : FieldType} {u U : State} (hvm : u.vm.Alike U.vm) (h : va_AOA t u) : va_AOA t U := by
  obtain ⟨comp, c, k, h1, h2, h3, h4, h5⟩ := va_AOA.spec h
  obtain ⟨k', hk', he⟩ := hvm.2.2 _ _ h3
  have hi : (U.vm.classes.findIdx? fun (x : Class) => match x.kind with | .array component _ => component == comp | _ => false) = some c := by
    have hb : U.vm.bare = u.vm.bare := by first | exact hvm.bare_eq | exact hvm.bare_eq.symm
    exact (va_idx_bare U.vm comp).symm.trans ((congrArg (fun v : Vm => v.classes.findIdx? fun (x : Class) => match x.kind with | .array component _ => component == comp | _ => false) hb).trans ((va_idx_bare u.vm comp).trans h2))
  have hkind : k'.kind = .array comp (.array t) := by rw [he]; exact h4
  have f1 : U.vm.findClass (FieldType.array t).toString = some comp := by rw [hvm.findClass]; exact h1
  have f2 : U.vm.findClass ("[" ++ (FieldType.array t).toString) = some c := by rw [hvm.findClass]; exact h5
  unfold va_AOA Cond.before Cond.holds
  simp only [Cond.value]
  rw [f1, Option.bind_some]
  refine (congrArg (fun o : Option Nat => (o.bind (fun c => (U.vm.classes[c]?).map fun (k : Class) => match k.kind with | .array _ ty => decide (ty = FieldType.array t) && decide (U.vm.findClass ("[" ++ (FieldType.array t).toString) = some c) | _ => false) == some true)) hi).trans ?_
  simp [hk', hkind, f2]
/-- words that are no good ones: links between nest mates, casts, what is declared, the three of List -/
def mNwM : List (String × Nat × MethodName × String) := [(RX5, 30, yX4_init, "ChuteLoft"), (RX0, 21, yX1_init, "ChuteLoft"), (RX5, 55, yX1_init, "ChuteLoft"), (RX5, 84, yX2_init, "ChuteLoft"), (RX5, 85, yX3_init, "ChuteLoft"), (RX6, 36, yX9_loading_, "ChuteLoftModel")]
def mNwF : List (String × Nat × String × String × String × String) := [(RX6, 65, "ChuteLoftModel", "wx", "[I", "ChuteLoftModel"), (RX6, 74, "ChuteLoftModel", "wy", "[I", "ChuteLoftModel")]
def mNwC : List (String × String) := [("java/lang/IllegalStateException", "java/lang/IllegalStateException"), ("java/lang/IllegalArgumentException", "java/lang/IllegalArgumentException"), ("java/lang/IndexOutOfBoundsException", "java/lang/IndexOutOfBoundsException"), (RX6, "java/lang/Object"), (RX7, "java/lang/Object"), (RX8, "java/lang/Object")]
def mNwD : List MethodName := [⟨"java/lang/RuntimeException", "<init>", "(Ljava/lang/String;)V"⟩, ⟨"java/lang/Exception", "<init>", "(Ljava/lang/String;)V"⟩, ⟨"java/lang/Throwable", "<init>", "(Ljava/lang/String;)V"⟩]
def mFwl : List (MethodName × MethodName) := [(⟨"java/util/List", "size", "()I"⟩, yJx4a65c_size_8abf5), (⟨"java/util/List", "get", "(I)Ljava/lang/Object;"⟩, yJx4a65c_get_915e3), (⟨"java/util/List", "add", "(Ljava/lang/Object;)Z"⟩, yJx4a65c_add_9ea2d)]
def mAOl : List String := ["ChuteLoft$Jumper", "ChuteLoft$Rig", "ChuteLoft$Jump", "java/lang/Object"]
def mStr : List (String × Nat × String) := [(RX5, 238, "what is 0 to 12"), (RX5, 326, "there is no such jumper"), (RX5, 242, "there is no such place"), (RX5, 212, "what is 0 to 8"), (RX5, 328, "there is no such rig"), (RX5, 226, "what is 0 to 4"), (RX5, 324, "a layer is 0 to 9"), (RX5, 322, "an argument is out of its bounds"), (RX5, 92, "there are 8 jumpers"), (RX5, 106, "there are 8 rigs"), (RX5, 129, "who has it, or shall have it, is aboard"), (RX5, 137, "the rig is packed"), (RX5, 151, "the last day is 500, and nobody waits aboard overnight"), (RX5, 164, "the plane is held, or full"), (RX5, 178, "the plane is held, or empty"), (RX5, 350, "that jumper has no rig")]
def mNcl : List (String × String) := [("java/lang/IllegalStateException", "java/lang/IllegalArgumentException"), ("java/lang/IllegalStateException", "java/lang/IndexOutOfBoundsException"), ("java/lang/IllegalArgumentException", "java/lang/IndexOutOfBoundsException")]
def mGL : Nat → Int32 := fun j => match j with | 0 => 8 | 1 => 14 | 2 => 20 | _ => 30
def mLL : Nat → Int32 := fun j => match j with | 0 => 4 | 1 => 6 | 2 => 9 | _ => 20
/-- what every method is given of the state at its start -/
def GS (K : Cfg) (U : State) : Prop :=
  K.2.2 0 ≤ U.heap.size ∧ va_K K.1 vwCl (mTys K) U ∧
  ((∀ q ∈ mNwM, va_Nw (.methodLinkNest q.1 q.2.1 q.2.2.1 q.2.2.2) U) ∧ (∀ q ∈ mNwF, va_Nw (.fieldLinkNest q.1 q.2.1 q.2.2.1 q.2.2.2.1 q.2.2.2.2.1 q.2.2.2.2.2) U) ∧ (∀ q ∈ mNwC, va_Nw (.castable q.1 q.2) U) ∧ (∀ q ∈ mNwD, va_Nw (.declares q) U)) ∧
  ((∀ q ∈ mFwl, va_Fw RJx4a65c q.1 q.2 U) ∧ (∀ C ∈ mAOl, va_AO C U) ∧ va_AOA .boolean U ∧ (∀ q ∈ mStr, ∃ a, vk_R q.1 q.2.1 q.2.2 a U) ∧ (∀ q ∈ mNcl, va_Nc q.1 q.2 U)) ∧
  (vx_Zq Bundle.tN "UNASSIGNED_STACK" Bundle.steD (mFA K) U U.heap ∧ vx_Zq Bundle.tN "SUPPRESSED_SENTINEL" Bundle.listD (mFA K) U U.heap) ∧
  ((va_Z RX5 "GROUND_LIMITS" "[I" (.ref (K.2.2 2)) (mFA K) U U.heap ∧ va_T .int (K.2.2 2) 4 (fun j => .int (mGL j)) (mFA K) U U.heap) ∧ (va_Z RX5 "LOADING_LIMITS" "[I" (.ref (K.2.2 3)) (mFA K) U U.heap ∧ va_T .int (K.2.2 3) 4 (fun j => .int (mLL j)) (mFA K) U U.heap)) ∧
  (va_Z RJx4a65c "DEFAULTCAPACITY_EMPTY_ELEMENTDATA" "[Ljava/lang/Object;" (.ref (K.2.2 1)) (mFA K) U U.heap ∧ va_T (.object "java/lang/Object") (K.2.2 1) 0 (fun _ => .null) (mFA K) U U.heap) ∧
  va_Z RJ9 "negativeZeroDoubleBits" "J" (.long (-9223372036854775808)) (mFA K) U U.heap
theorem GS.moved {K : Cfg} {s U : State} {H : Heap} {locs : List Loc} (h : GS K s) (hS : va_S (mFA K) s.heap H locs) (hU : U.heap = H) (hW : s.WarmedH U.vm) : GS K U := by
  obtain ⟨h1, h2, ⟨h3, h4, h5, h6⟩, ⟨h7, h8, h9, h10, h11⟩, ⟨h12, h13⟩, ⟨⟨h14, h15⟩, h16, h17⟩, ⟨h18, h19⟩, h20⟩ := h
  have hA := hW.alike
  have hq : ∀ a : Nat, a < s.heap.size → ¬ mFA K a → U.heap[a]? = s.heap[a]? := fun a ha hn => by rw [hU]; exact hS.2.1 a ha hn
  exact ⟨by rw [hU]; exact Nat.le_trans h1 hS.1, va_K.moved hA h2, ⟨fun q hq9 => va_Nw.warmM hW (h3 q hq9), fun q hq9 => va_Nw.warmF hW (h4 q hq9), fun q hq9 => va_Nw.warmC hW (h5 q hq9), fun q hq9 => va_Nw.warmD hW (h6 q hq9)⟩,
    ⟨fun q hq9 => va_Fw.moved (by
      simp only [mFwl, List.mem_cons, List.not_mem_nil, or_false] at hq9
      rcases hq9 with rfl | rfl | rfl <;> exact ⟨by decide, by decide⟩) hA (h7 q hq9), fun C hC => va_AO.moved hA (h8 C hC), va_AOA.moved hA h9, fun q hq9 => (h10 q hq9).imp fun a ha => vk_R.warm hW ha, fun q hq9 => va_Nc.moved hA (h11 q hq9)⟩,
    ⟨vx_Zq.moved hA (vx_Zq.kept h12 hq), vx_Zq.moved hA (vx_Zq.kept h13 hq)⟩,
    ⟨⟨va_Z.moved hA (va_Z.kept h14 hq), va_T.moved hA (va_T.kept h15 hq)⟩, va_Z.moved hA (va_Z.kept h16 hq), va_T.moved hA (va_T.kept h17 hq)⟩,
    ⟨va_Z.moved hA (va_Z.kept h18 hq), va_T.moved hA (va_T.kept h19 hq)⟩, va_Z.moved hA (va_Z.kept h20 hq)⟩
/-- a method's end: what it answers, and the memory then -/
def mQ (K : Cfg) (Q : Option Value → Mem → Prop) : Array Value → State → Outcome → State → Prop := fun _ st oc t => ∃ (v : Option Value) (M : Mem), oc = .returned v ∧ Q v M ∧ mh K M t.heap ∧ va_F (mFA K) st t
def mX (K : Cfg) (QX : String → Mem → Prop) : String → State → State → Prop := fun E st t => ∃ M : Mem, QX E M ∧ mh K M t.heap ∧ va_F (mFA K) st t
abbrev mWs (y : MethodName) (cc : ByteArray) (maxL : Nat) (ret : Option FieldType) : List Cond := .code y cc maxL ret :: mLA
abbrev mPre (K : Cfg) (M : Mem) (As : List Value) : Array Value → State → Prop := va_Pc As (fun U => GS K U ∧ mh K M U.heap)
/-- a contract: a method that returns -/
def mP (K : Cfg) (l : Launch) (y : MethodName) (cc : ByteArray) (maxL : Nat) (ret : Option FieldType) (rm : Room) (As : List Value) (P : (Option Value → Mem → Prop) → Mem → Prop) : Prop :=
  ∀ (M : Mem) (Q : Option Value → Mem → Prop), P Q M → Met l y (mWs y cc maxL ret) rm (mPre K M As) (mQ K Q) rm.cells rm.slots (mFA K)
/-- a contract: a method that returns, making nothing, or throws -/
def mXP (K : Cfg) (l : Launch) (y : MethodName) (cc : ByteArray) (maxL : Nat) (ret : Option FieldType) (rm : Room) (As : List Value) (P : (Option Value → Mem → Prop) → (String → Mem → Prop) → Mem → Prop) : Prop :=
  ∀ (M : Mem) (Q : Option Value → Mem → Prop) (QX : String → Mem → Prop), P Q QX M → vy_Met l y (mWs y cc maxL ret) rm (mPre K M As) (mQ K Q) (mX K QX) 0 0 1 6 (mFA K)
/-- what a body has at hand throughout -/
def Cx (K : Cfg) (p : Program) (l : Launch) (s : State) (m : MethodId) (args : Array Value) (c : Code) (cc : ByteArray) (nL : Nat) (own : String) : Prop :=
  CallFix p m c cc nL s args mLA own ∧ GS K s ∧ l.stackTraces = false
theorem mPre_blind {K : Cfg} {M : Mem} {As : List Value} : FrameBlind (mPre K M As) := by
  intro a U g mk h
  obtain ⟨h1, h2, h3⟩ := h
  exact ⟨h1, GS.moved (U := U.calling g mk a) (H := U.heap) (locs := []) h2 va_S.rf rfl (State.WarmedH.refl U), h3⟩
theorem mPre_at {K : Cfg} {M : Mem} {As : List Value} {s U : State} {H : Heap} {locs : List Loc} (hG : GS K s) (hS : va_S (mFA K) s.heap H locs) (hM : mh K M H) (hU : U.heap = H) (hW : s.WarmedH U.vm) : mPre K M As As.toArray U := ⟨rfl, GS.moved hG hS hU hW, by rw [hU]; exact hM⟩
section MBODY
variable {K : Cfg} {l : Launch} {y : MethodName} {cc : ByteArray} {maxL : Nat} {ret : Option FieldType} {rm : Room} {As : List Value}
theorem mP.of {P : (Option Value → Mem → Prop) → Mem → Prop} (hst : l.stackTraces = false) (hy : plainName y.cls = true) (hn : (lg_sl As).length ≤ maxL)
    (body : ∀ (M : Mem) (Q : Option Value → Mem → Prop), P Q M → ∀ (p : Program) (e : Env) (s : State) (m : MethodId) (below : List Frame) (meth : Method) (c : Code), Cx K p l s m As.toArray c cc maxL y.cls → meth.sig.returnType = ret → meth.locks = false → meth.name = y.name → mh K M s.heap → ∀ ls, lv_has ls maxL (lv_args 0 As) →
      W p l e rm s m As.toArray below meth c s.heap [] 0 0 (MQ below (mQ K Q) As.toArray s rm.cells rm.slots (mFA K)) (F0 m 0 ls [])) : mP K l y cc maxL ret rm As P := by
  intro M Q hP
  refine Met.ofW (ws' := mLA) hy rfl ?_
  intro p e s m args below meth c s₁ B hml hv
  obtain ⟨rfl, hG, hM⟩ := hv
  have hts := atoms_spec (ws := mWs y cc maxL ret) B.pre
  have hl := lv_entry As (n := maxL) hn
  rw [lg_entry_eq]
  generalize (lg_sl As ++ List.replicate (maxL - (lg_sl As).length) Slot.unset).toArray = ls at hl ⊢
  exact body M Q hP p e s m below meth c ⟨⟨B.exec, B.bytes, hml, findClass_of_methodNamed B.named, fun w hw => hts w (List.mem_cons_of_mem _ hw)⟩, hG, hst⟩ B.returns B.notSynchronized (name_of_methodNamed B.named B.method).1 hM ls hl
theorem mXP.of {P : (Option Value → Mem → Prop) → (String → Mem → Prop) → Mem → Prop} (hst : l.stackTraces = false) (hy : plainName y.cls = true) (hn : (lg_sl As).length ≤ maxL)
    (body : ∀ (M : Mem) (Q : Option Value → Mem → Prop) (QX : String → Mem → Prop), P Q QX M → ∀ (p : Program) (e : Env) (s : State) (m : MethodId) (below : List Frame) (meth : Method) (c : Code), Cx K p l s m As.toArray c cc maxL y.cls → meth.sig.returnType = ret → meth.locks = false → (∀ x ∈ c.exceptionTable.toList, False) → mh K M s.heap → ∀ ls, lv_has ls maxL (lv_args 0 As) →
      W p l e rm s m As.toArray below meth c s.heap [] 0 0 (vy_MQ below (mQ K Q) (mX K QX) As.toArray s 0 0 1 6 (mFA K)) (F0 m 0 ls [])) : mXP K l y cc maxL ret rm As P := by
  intro M Q QX hP
  refine vy_ofW (ws' := mLA) hy rfl ?_
  intro p e s m args below meth c s₁ B hml hno hv
  obtain ⟨rfl, hG, hM⟩ := hv
  have hts := atoms_spec (ws := mWs y cc maxL ret) B.pre
  have hl := lv_entry As (n := maxL) hn
  rw [lg_entry_eq]
  generalize (lg_sl As ++ List.replicate (maxL - (lg_sl As).length) Slot.unset).toArray = ls at hl ⊢
  exact body M Q QX hP p e s m below meth c ⟨⟨B.exec, B.bytes, hml, findClass_of_methodNamed B.named, fun w hw => hts w (List.mem_cons_of_mem _ hw)⟩, hG, hst⟩ B.returns B.notSynchronized hno hM ls hl
end MBODY
end
section
/-! ===== the shadows' words, and a row for each ===== -/
def mGetI (a ci j : Nat) (k : Int32 → Mem → Prop) : Mem → Prop := fun M => ∃ (fs : List Value) (x : Int32), M a = some (.inr (ci, fs)) ∧ fs[j]? = some (.int x) ∧ k x M
def mGetF (a ci j : Nat) (k : UInt32 → Mem → Prop) : Mem → Prop := fun M => ∃ (fs : List Value) (x : UInt32), M a = some (.inr (ci, fs)) ∧ fs[j]? = some (.float x) ∧ k x M
def mGetD (a ci j : Nat) (k : UInt64 → Mem → Prop) : Mem → Prop := fun M => ∃ (fs : List Value) (x : UInt64), M a = some (.inr (ci, fs)) ∧ fs[j]? = some (.double x) ∧ k x M
def mGetR (a ci j : Nat) (k : Nat → Mem → Prop) : Mem → Prop := fun M => ∃ (fs : List Value) (x : Nat), M a = some (.inr (ci, fs)) ∧ fs[j]? = some (.ref x) ∧ k x M
def mPut (a ci j : Nat) (v : Value) (k : Mem → Prop) : Mem → Prop := fun M => ∃ fs : List Value, M a = some (.inr (ci, fs)) ∧ j < fs.length ∧ k (mUp M a (.inr (ci, fs.set j v)))
/-- a boolean's field, which holds 0 or 1 -/
def mPutZ (a ci j : Nat) (x : Int32) (k : Mem → Prop) : Mem → Prop := fun M => (x = 0 ∨ x = 1) ∧ mPut a ci j (.int x) k M
def mLdI (K : Cfg) (a : Nat) (i : Int32) (k : Int32 → Mem → Prop) : Mem → Prop := fun M => ∃ (n : Nat) (f : Nat → Int32), M a = some (.inl (K.2.1 0, n, .inl f)) ∧ vp_in i n ∧ k (f i.toNatClampNeg) M
def mLdL (K : Cfg) (a : Nat) (i : Int32) (k : Int64 → Mem → Prop) : Mem → Prop := fun M => ∃ (n : Nat) (f : Nat → Int64), M a = some (.inl (K.2.1 1, n, .inr (.inl f))) ∧ vp_in i n ∧ k (f i.toNatClampNeg) M
def mLdD (K : Cfg) (a : Nat) (i : Int32) (k : UInt64 → Mem → Prop) : Mem → Prop := fun M => ∃ (n : Nat) (f : Nat → UInt64), M a = some (.inl (K.2.1 2, n, .inr (.inr (.inr (.inl f))))) ∧ vp_in i n ∧ k (f i.toNatClampNeg) M
def mLdZ (K : Cfg) (a : Nat) (i : Int32) (k : Int32 → Mem → Prop) : Mem → Prop := fun M => ∃ (n : Nat) (f : Nat → Int32), M a = some (.inl (K.2.1 3, n, .inl f)) ∧ vp_in i n ∧ k (f i.toNatClampNeg) M
/-- an array of references, of kind t: the one read isn't null -/
def mLdQ (K : Cfg) (t : Nat) (a : Nat) (i : Int32) (k : Nat → Mem → Prop) : Mem → Prop := fun M => ∃ (n : Nat) (f : Nat → Option Nat) (b : Nat), M a = some (.inl (K.2.1 t, n, .inr (.inr (.inr (.inr f))))) ∧ vp_in i n ∧ f i.toNatClampNeg = some b ∧ k b M
def mStI (K : Cfg) (a : Nat) (i x : Int32) (k : Mem → Prop) : Mem → Prop := fun M => ∃ (n : Nat) (f : Nat → Int32), M a = some (.inl (K.2.1 0, n, .inl f)) ∧ vp_in i n ∧ k (mUp M a (.inl (K.2.1 0, n, .inl (upd f i.toNatClampNeg x))))
def mStL (K : Cfg) (a : Nat) (i : Int32) (x : Int64) (k : Mem → Prop) : Mem → Prop := fun M => ∃ (n : Nat) (f : Nat → Int64), M a = some (.inl (K.2.1 1, n, .inr (.inl f))) ∧ vp_in i n ∧ k (mUp M a (.inl (K.2.1 1, n, .inr (.inl (vp_updL f i.toNatClampNeg x)))))
def mStD (K : Cfg) (a : Nat) (i : Int32) (x : UInt64) (k : Mem → Prop) : Mem → Prop := fun M => ∃ (n : Nat) (f : Nat → UInt64), M a = some (.inl (K.2.1 2, n, .inr (.inr (.inr (.inl f))))) ∧ vp_in i n ∧ k (mUp M a (.inl (K.2.1 2, n, .inr (.inr (.inr (.inl (vf_upd f i.toNatClampNeg x)))))))
def mStZ (K : Cfg) (a : Nat) (i x : Int32) (k : Mem → Prop) : Mem → Prop := fun M => ∃ (n : Nat) (f : Nat → Int32), M a = some (.inl (K.2.1 3, n, .inl f)) ∧ vp_in i n ∧ (x = 0 ∨ x = 1) ∧ k (mUp M a (.inl (K.2.1 3, n, .inl (upd f i.toNatClampNeg x))))
/-- v, an object of class ci, into an array of kind t -/
def mStQ (K : Cfg) (t ci : Nat) (a : Nat) (i : Int32) (v : Nat) (k : Mem → Prop) : Mem → Prop := fun M => ∃ (n : Nat) (f : Nat → Option Nat) (fs : List Value), M a = some (.inl (K.2.1 t, n, .inr (.inr (.inr (.inr f))))) ∧ M v = some (.inr (ci, fs)) ∧ vp_in i n ∧ k (mUp M a (.inl (K.2.1 t, n, .inr (.inr (.inr (.inr (va_up f i.toNatClampNeg (some v))))))))
def mLen (K : Cfg) (t : Nat) (a : Nat) (k : Int32 → Mem → Prop) : Mem → Prop := fun M => ∃ x : vp_A, M a = some (.inl (K.2.1 t, x)) ∧ k (Int32.ofNat x.1) M
/-- of one of the two tables -/
def mLenT (K : Cfg) (a : Nat) (k : Int32 → Mem → Prop) : Mem → Prop := fun M => (a = K.2.2 2 ∨ a = K.2.2 3) ∧ k 4 M
def mTab (K : Cfg) (a : Nat) (i : Nat) : Int32 := if a = K.2.2 2 then mGL i else mLL i
def mLdT (K : Cfg) (a : Nat) (i : Int32) (k : Int32 → Mem → Prop) : Mem → Prop := fun M => (a = K.2.2 2 ∨ a = K.2.2 3) ∧ vp_in i 4 ∧ k (mTab K a i.toNatClampNeg) M
/-- of the element data: the empty one, or an array of our own -/
def mLenE (K : Cfg) (a : Nat) (k : Int32 → Mem → Prop) : Mem → Prop := fun M => if a = K.2.2 1 then k 0 M else mLen K 7 a k M
def mAs (c : Prop) (k : Mem → Prop) : Mem → Prop := fun M => c ∧ k M
def mIf (c : Prop) [Decidable c] (A B : Mem → Prop) : Mem → Prop := fun M => if c then A M else B M
def mRecv (b ci : Nat) (k : Mem → Prop) : Mem → Prop := fun M => (∃ fs : List Value, M b = some (.inr (ci, fs))) ∧ k M
def mFresh (K : Cfg) (M : Mem) (a : Nat) : Prop := K.2.2 0 ≤ a ∧ ∀ (q : Nat) (e : va_E), M q = some e → q < a
def mNew (K : Cfg) (ci : Nat) (fs : List Value) (k : Nat → Mem → Prop) : Mem → Prop := fun M => ∀ a : Nat, mFresh K M a → k a (mUp M a (.inr (ci, fs)))
def mNewA (K : Cfg) (t : Nat) (z : vp_A) (k : Nat → Mem → Prop) : Mem → Prop := fun M => ∀ a : Nat, mFresh K M a → k a (mUp M a (.inl (K.2.1 t, z)))
/-- new boolean[n][m] -/
def mNewZ (K : Cfg) (n m : Nat) (k : Nat → Mem → Prop) : Mem → Prop := fun M => ∀ a : Nat, mFresh K M a → k a (fun q => if q = a then some (.inl (K.2.1 8, n, .inr (.inr (.inr (.inr (fun i => if i < n then some (a + 1 + i) else none)))))) else if a < q ∧ q ≤ a + n then some (.inl (K.2.1 3, m, .inl (fun _ => 0))) else M q)
/-- a field of a class, as a method of own names it: class C (the table T of its N fields, place ci), field j -/
def mFl (own ref C : String) (T : u_T) (N ci index j : Nat) : Prop := vwCl[ci]? = some (C, T, N) ∧ j < N ∧ (∀ w ∈ u_ws C T N, w ∈ mLA) ∧ Cond.fieldLink own index ref (T j).2.1 (T j).2.2.1 ∈ mLA ∧ (ref = (T j).1 ∨ Cond.sameField ref (T j).1 (T j).2.1 (T j).2.2.1 ∈ mLA)
/-- a class's types, and that its fields' names are apart -/
def mFt (T : u_T) (N : Nat) (ty : Nat → FieldType) : Prop := (∀ k, k < N → parseFieldDescriptor (T k).2.2.1 = some (ty k)) ∧ (∀ a, a < N → ∀ b, b < N → a ≠ b → (T a).2.1 ≠ (T b).2.1)
section MROWS
variable {K : Cfg} {p : Program} {l : Launch} {e : Env} {R : Room} {s : State} {m : MethodId} {args : Array Value} {below : List Frame} {meth : Method} {c : Code} {H : Heap} {locs : List Loc} {cells slots : Nat} {Qf : State → Prop}
variable {cc : ByteArray} {nL : Nat} {own : String} {pc : Nat} {ls : Array Slot} {rest : List Value} {M : Mem} {a ci j index : Nat} {ref C : String} {T : u_T} {N : Nat}
theorem r_get (X : Cx K p l s m args c cc nL own) (hM : mh K M H) {fs : List Value} {v : Value} (h1 : M a = some (.inr (ci, fs))) (h2 : fs[j]? = some v) (hf : mFl own ref C T N ci index j) (hdg : decode cc pc = .ok (.getfield index, 3))
    (kk : W p l e R s m args below meth c H locs cells slots Qf (F0 m (pc + 3) ls (v :: rest))) : W p l e R s m args below meth c H locs cells slots Qf (F0 m pc ls (.ref a :: rest)) := by
  obtain ⟨⟨hx, hb, hml, hown, hts⟩, hG, -⟩ := X
  obtain ⟨f1, f2, f3, f4, f5⟩ := hf
  exact va_get hx hb hts f3 hown hG.2.1 (va_P1 (hM a _ h1).2) 0 rfl f1 j f2 (hts _ f4) (fun x h => f5.elim (fun e => by rw [e]; exact h) (fun w => u_same (hts _ w) x h)) h2 hdg kk
theorem r_geti (X : Cx K p l s m args c cc nL own) (hM : mh K M H) {k : Int32 → Mem → Prop} (hP : mGetI a ci j k M) (hf : mFl own ref C T N ci index j) (hdg : decode cc pc = .ok (.getfield index, 3))
    (kk : ∀ x : Int32, k x M → W p l e R s m args below meth c H locs cells slots Qf (F0 m (pc + 3) ls (.int x :: rest))) : W p l e R s m args below meth c H locs cells slots Qf (F0 m pc ls (.ref a :: rest)) := by
  obtain ⟨fs, x, h1, h2, h3⟩ := hP
  exact r_get X hM h1 h2 hf hdg (kk x h3)
theorem r_getf (X : Cx K p l s m args c cc nL own) (hM : mh K M H) {k : UInt32 → Mem → Prop} (hP : mGetF a ci j k M) (hf : mFl own ref C T N ci index j) (hdg : decode cc pc = .ok (.getfield index, 3))
    (kk : ∀ x : UInt32, k x M → W p l e R s m args below meth c H locs cells slots Qf (F0 m (pc + 3) ls (.float x :: rest))) : W p l e R s m args below meth c H locs cells slots Qf (F0 m pc ls (.ref a :: rest)) := by
  obtain ⟨fs, x, h1, h2, h3⟩ := hP
  exact r_get X hM h1 h2 hf hdg (kk x h3)
theorem r_getd (X : Cx K p l s m args c cc nL own) (hM : mh K M H) {k : UInt64 → Mem → Prop} (hP : mGetD a ci j k M) (hf : mFl own ref C T N ci index j) (hdg : decode cc pc = .ok (.getfield index, 3))
    (kk : ∀ x : UInt64, k x M → W p l e R s m args below meth c H locs cells slots Qf (F0 m (pc + 3) ls (.double x :: rest))) : W p l e R s m args below meth c H locs cells slots Qf (F0 m pc ls (.ref a :: rest)) := by
  obtain ⟨fs, x, h1, h2, h3⟩ := hP
  exact r_get X hM h1 h2 hf hdg (kk x h3)
theorem r_getr (X : Cx K p l s m args c cc nL own) (hM : mh K M H) {k : Nat → Mem → Prop} (hP : mGetR a ci j k M) (hf : mFl own ref C T N ci index j) (hdg : decode cc pc = .ok (.getfield index, 3))
    (kk : ∀ x : Nat, k x M → W p l e R s m args below meth c H locs cells slots Qf (F0 m (pc + 3) ls (.ref x :: rest))) : W p l e R s m args below meth c H locs cells slots Qf (F0 m pc ls (.ref a :: rest)) := by
  obtain ⟨fs, x, h1, h2, h3⟩ := hP
  exact r_get X hM h1 h2 hf hdg (kk x h3)
/-- a nest mate's field -/
theorem r_getrN (X : Cx K p l s m args c cc nL own) (hM : mh K M H) {k : Nat → Mem → Prop} (hP : mGetR a ci j k M) {host : String} (hc : vwCl[ci]? = some (C, T, N)) (hj : j < N) (hin : ∀ w ∈ u_ws C T N, w ∈ mLA) (hq : (own, index, C, (T j).2.1, (T j).2.2.1, host) ∈ mNwF) (he : C = (T j).1) (hdg : decode cc pc = .ok (.getfield index, 3))
    (kk : ∀ x : Nat, k x M → W p l e R s m args below meth c H locs cells slots Qf (F0 m (pc + 3) ls (.ref x :: rest))) : W p l e R s m args below meth c H locs cells slots Qf (F0 m pc ls (.ref a :: rest)) := by
  obtain ⟨fs, x, h1, h2, h3⟩ := hP
  obtain ⟨⟨hx, hb, hml, hown, hts⟩, hG, -⟩ := X
  exact va_getN (ref := C) (host := host) hx hb hts hin hown hG.2.1 (va_P1 (hM a _ h1).2) 0 rfl hc j hj (va_Nw.use rfl (hG.2.2.1.2.1 _ hq)) (fun x h => by rw [he]; exact h) h2 hdg (kk x h3)
theorem r_put (X : Cx K p l s m args c cc nL own) (hM : mh K M H) (hS : va_S (mFA K) s.heap H locs) {v : Value} {k : Mem → Prop} (hP : mPut a ci j v k M) (hf : mFl own ref C T N ci index j) {ty0 : Nat → FieldType} (ht : mFt T N ty0) (hfin : (T j).2.2.2 = false) {ty : FieldType} (hd : parseFieldDescriptor (T j).2.2.1 = some ty) (hn : narrow ty v = v) (hfit : fits ty v = true) (hdg : decode cc pc = .ok (.putfield index, 3))
    (kk : ∀ (M1 : Mem) (H1 : Heap) (locs1 : List Loc), mh K M1 H1 → va_S (mFA K) s.heap H1 locs1 → k M1 → W p l e R s m args below meth c H1 locs1 cells slots Qf (F0 m (pc + 3) ls rest)) : W p l e R s m args below meth c H locs cells slots Qf (F0 m pc ls (v :: .ref a :: rest)) := by
  obtain ⟨⟨hx, hb, hml, hown, hts⟩, hG, -⟩ := X
  obtain ⟨f1, f2, f3, f4, f5⟩ := hf
  obtain ⟨fs, h1, hl, h3⟩ := hP
  have hK := hG.2.1
  have hap := va_apart (own := own) hts f3 ty0 ht.1 ht.2 hK f1
  obtain ⟨hA, r, g1, cell, q1, q2, q3, q4⟩ := hM a _ h1
  have hr : r = (C, T, N) := Option.some.inj (g1.symm.trans f1)
  subst hr
  obtain ⟨hS9, hfc, kC, hkC, hkind⟩ := hK.1 ci _ f1
  obtain ⟨cf, kf, fi, f, hi, hsl⟩ := hS9 j f2
  have hlay := hts _ (f3 _ (u_in_lay f2))
  unfold u_lay at hlay
  rw [if_neg (by rw [hfin]; decide)] at hlay
  have hst := (u_facts hfc hkC (u_lays hts f3 f2) hi).1
  have h6 := u_store hfc hkC hkind hlay hi hd hn hfit
  have hsame : s.fieldFound? ref (T j).2.1 (T j).2.2.1 = some (cf, kf, fi, f) := f5.elim (fun e => by rw [e]; exact hi) (fun w => u_same (hts _ w) _ hi)
  refine W.putK hx hb (f := f) ⟨hown, hts _ f4, ⟨_, _, _, hsame⟩, hst⟩ (by rw [q2]; exact h6) q1 q3 (by rw [hsl]; exact k2_hasslot (q4 j f2)) rfl rfl hdg fun H' e1 e2 e3 => ?_
  rw [hsl] at e1 ⊢
  exact kk _ H' _ (hM.put (e := .inr (ci, fs.set j v)) hA ⟨_, f1, t_OB.to (V := updV (vp_V fs) j v) ⟨_, e1, q2, q3, t_set q4 hap f2 v⟩ (fun i _ => vp_updV_set hl v i)⟩ e3) (hS.put e2 e3 hA) h3
/-- a final field, in its class's constructor -/
theorem r_putF (X : Cx K p l s m args c cc nL own) (hM : mh K M H) (hS : va_S (mFA K) s.heap H locs) {v : Value} {k : Mem → Prop} (hP : mPut a ci j v k M) (hf : mFl own ref C T N ci index j) {ty0 : Nat → FieldType} (ht : mFt T N ty0) (hfin : (T j).2.2.2 = true) (hin2 : meth.name = "<init>") (hdecl : (T j).1 = own) {ty : FieldType} (hd : parseFieldDescriptor (T j).2.2.1 = some ty) (hn : narrow ty v = v) (hfit : fits ty v = true) (hdg : decode cc pc = .ok (.putfield index, 3))
    (kk : ∀ (M1 : Mem) (H1 : Heap) (locs1 : List Loc), mh K M1 H1 → va_S (mFA K) s.heap H1 locs1 → k M1 → W p l e R s m args below meth c H1 locs1 cells slots Qf (F0 m (pc + 3) ls rest)) : W p l e R s m args below meth c H locs cells slots Qf (F0 m pc ls (v :: .ref a :: rest)) := by
  obtain ⟨⟨hx, hb, hml, hown, hts⟩, hG, -⟩ := X
  obtain ⟨f1, f2, f3, f4, f5⟩ := hf
  obtain ⟨fs, h1, hl, h3⟩ := hP
  have hK := hG.2.1
  have hap := va_apart (own := own) hts f3 ty0 ht.1 ht.2 hK f1
  obtain ⟨hA, r, g1, cell, q1, q2, q3, q4⟩ := hM a _ h1
  have hr : r = (C, T, N) := Option.some.inj (g1.symm.trans f1)
  subst hr
  obtain ⟨hS9, hfc, kC, hkC, hkind⟩ := hK.1 ci _ f1
  obtain ⟨cf, kf, fi, f, hi, hsl⟩ := hS9 j f2
  have hlay := hts _ (f3 _ (u_in_lay f2))
  unfold u_lay at hlay
  rw [if_pos hfin] at hlay
  have hst := (u_facts hfc hkC (u_lays hts f3 f2) hi).1
  have hcf : m.cls = cf := by
    obtain ⟨_, _, c', _, _, _, -, -, hf', -, -, -, hown2, -⟩ := Cond.laysFinal_spec hlay
    have e1 : c' = cf := by have := hi.symm.trans hf'; simp at this; exact this.1.symm
    rw [hdecl] at hown2
    rw [← e1]; exact Option.some.inj (hown.symm.trans hown2)
  have h6 := u_fits hfc hkC hkind (Or.inr hlay) hi hd hn hfit
  have hsame : s.fieldFound? ref (T j).2.1 (T j).2.2.1 = some (cf, kf, fi, f) := f5.elim (fun e => by rw [e]; exact hi) (fun w => u_same (hts _ w) _ hi)
  refine W.putFinK hx hb hown (hts _ f4) hsame hst hcf hin2 (by rw [q2]; exact h6) q1 q3 (by rw [hsl]; exact k2_hasslot (q4 j f2)) rfl rfl hdg fun H' e1 e2 e3 => ?_
  rw [hsl] at e1 ⊢
  exact kk _ H' _ (hM.put (e := .inr (ci, fs.set j v)) hA ⟨_, f1, t_OB.to (V := updV (vp_V fs) j v) ⟨_, e1, q2, q3, t_set q4 hap f2 v⟩ (fun i _ => vp_updV_set hl v i)⟩ e3) (hS.put e2 e3 hA) h3
theorem narrow_z {x : Int32} (h : x = 0 ∨ x = 1) : narrow .boolean (.int x) = .int x ∧ fits .boolean (.int x) = true := by
  rcases h with rfl | rfl <;> exact ⟨by decide, by decide⟩
theorem r_putz (X : Cx K p l s m args c cc nL own) (hM : mh K M H) (hS : va_S (mFA K) s.heap H locs) {x : Int32} {k : Mem → Prop} (hP : mPutZ a ci j x k M) (hf : mFl own ref C T N ci index j) {ty0 : Nat → FieldType} (ht : mFt T N ty0) (hfin : (T j).2.2.2 = false) (hd : parseFieldDescriptor (T j).2.2.1 = some .boolean) (hdg : decode cc pc = .ok (.putfield index, 3))
    (kk : ∀ (M1 : Mem) (H1 : Heap) (locs1 : List Loc), mh K M1 H1 → va_S (mFA K) s.heap H1 locs1 → k M1 → W p l e R s m args below meth c H1 locs1 cells slots Qf (F0 m (pc + 3) ls rest)) : W p l e R s m args below meth c H locs cells slots Qf (F0 m pc ls (.int x :: .ref a :: rest)) :=
  r_put X hM hS hP.2 hf ht hfin hd (narrow_z hP.1).1 (narrow_z hP.1).2 hdg kk
theorem r_ldi (X : Cx K p l s m args c cc nL own) (hM : mh K M H) {i : Int32} {k : Int32 → Mem → Prop} (hP : mLdI K a i k M) (hdg : decode cc pc = .ok (.iaload, 1))
    (kk : ∀ x : Int32, k x M → W p l e R s m args below meth c H locs cells slots Qf (F0 m (pc + 1) ls (.int x :: rest))) : W p l e R s m args below meth c H locs cells slots Qf (F0 m pc ls (.int i :: .ref a :: rest)) := by
  obtain ⟨n, f, h1, h2, h3⟩ := hP
  obtain ⟨⟨hx, hb, hml, hown, hts⟩, hG, -⟩ := X
  exact va_iald hx hb hG.2.1 (va_P1 (hM a _ h1).2) 0 0 rfl rfl h2 hdg (kk _ h3)
theorem r_ldz (X : Cx K p l s m args c cc nL own) (hM : mh K M H) {i : Int32} {k : Int32 → Mem → Prop} (hP : mLdZ K a i k M) (hdg : decode cc pc = .ok (.baload, 1))
    (kk : ∀ x : Int32, k x M → W p l e R s m args below meth c H locs cells slots Qf (F0 m (pc + 1) ls (.int x :: rest))) : W p l e R s m args below meth c H locs cells slots Qf (F0 m pc ls (.int i :: .ref a :: rest)) := by
  obtain ⟨n, f, h1, h2, h3⟩ := hP
  obtain ⟨⟨hx, hb, hml, hown, hts⟩, hG, -⟩ := X
  exact va_zald hx hb hG.2.1 (va_P1 (hM a _ h1).2) 0 3 rfl rfl h2 hdg (kk _ h3)
theorem r_ldl (X : Cx K p l s m args c cc nL own) (hM : mh K M H) {i : Int32} {k : Int64 → Mem → Prop} (hP : mLdL K a i k M) (hdg : decode cc pc = .ok (.laload, 1))
    (kk : ∀ x : Int64, k x M → W p l e R s m args below meth c H locs cells slots Qf (F0 m (pc + 1) ls (.long x :: rest))) : W p l e R s m args below meth c H locs cells slots Qf (F0 m pc ls (.int i :: .ref a :: rest)) := by
  obtain ⟨n, f, h1, h2, h3⟩ := hP
  obtain ⟨⟨hx, hb, hml, hown, hts⟩, hG, -⟩ := X
  exact va_lald hx hb hG.2.1 (va_P1 (hM a _ h1).2) 0 1 rfl rfl h2 hdg (kk _ h3)
theorem r_ldd (X : Cx K p l s m args c cc nL own) (hM : mh K M H) {i : Int32} {k : UInt64 → Mem → Prop} (hP : mLdD K a i k M) (hdg : decode cc pc = .ok (.daload, 1))
    (kk : ∀ x : UInt64, k x M → W p l e R s m args below meth c H locs cells slots Qf (F0 m (pc + 1) ls (.double x :: rest))) : W p l e R s m args below meth c H locs cells slots Qf (F0 m pc ls (.int i :: .ref a :: rest)) := by
  obtain ⟨n, f, h1, h2, h3⟩ := hP
  obtain ⟨⟨hx, hb, hml, hown, hts⟩, hG, -⟩ := X
  exact va_dald hx hb hG.2.1 (va_P1 (hM a _ h1).2) 0 2 rfl rfl h2 hdg (kk _ h3)
theorem r_ldq {t : Nat} {E : String} (ht : ∀ K : Cfg, (mTys K)[t]? = some (K.2.1 t, .object E)) (X : Cx K p l s m args c cc nL own) (hM : mh K M H) {i : Int32} {k : Nat → Mem → Prop} (hP : mLdQ K t a i k M) (hdg : decode cc pc = .ok (.aaload, 1))
    (kk : ∀ x : Nat, k x M → W p l e R s m args below meth c H locs cells slots Qf (F0 m (pc + 1) ls (.ref x :: rest))) : W p l e R s m args below meth c H locs cells slots Qf (F0 m pc ls (.int i :: .ref a :: rest)) := by
  obtain ⟨n, f, b, h1, h2, h4, h3⟩ := hP
  obtain ⟨⟨hx, hb, hml, hown, hts⟩, hG, -⟩ := X
  refine va_aldq hx hb hG.2.1 (va_P1 (hM a _ h1).2) 0 t rfl (ht K) h2 hdg ?_
  rw [h4]
  exact kk _ h3
/-- an array of arrays -/
theorem r_ldqZ (X : Cx K p l s m args c cc nL own) (hM : mh K M H) {i : Int32} {k : Nat → Mem → Prop} (hP : mLdQ K 8 a i k M) (hdg : decode cc pc = .ok (.aaload, 1))
    (kk : ∀ x : Nat, k x M → W p l e R s m args below meth c H locs cells slots Qf (F0 m (pc + 1) ls (.ref x :: rest))) : W p l e R s m args below meth c H locs cells slots Qf (F0 m pc ls (.int i :: .ref a :: rest)) := by
  obtain ⟨n, f, b, h1, h2, h4, h3⟩ := hP
  obtain ⟨⟨hx, hb, hml, hown, hts⟩, hG, -⟩ := X
  have hlt : i.toNatClampNeg < n := Nat.not_le.mp fun q => h2 (Or.inr q)
  refine W.aald (v := va_rf (f i.toNatClampNeg)) (ty := .array .boolean) hx hb (hM a _ h1).2 ((hG.2.1.2 8 _ rfl).1 n (fun j => va_rf (f j))) rfl (fun q => by cases q) (by show ¬ (i < 0 ∨ (arrV _ _ _).slots.size ≤ _); rw [arrV_size]; exact h2) (by show (arrV _ _ _).slots[_]? = _; rw [arrV_read _ _ hlt]) rfl rfl hdg ?_
  rw [h4]
  exact kk _ h3
theorem r_len {t : Nat} {ty : FieldType} (ht : ∀ K : Cfg, (mTys K)[t]? = some (K.2.1 t, ty)) (X : Cx K p l s m args c cc nL own) (hM : mh K M H) {k : Int32 → Mem → Prop} (hP : mLen K t a k M) (hdg : decode cc pc = .ok (.arraylength, 1))
    (kk : ∀ x : Int32, k x M → W p l e R s m args below meth c H locs cells slots Qf (F0 m (pc + 1) ls (.int x :: rest))) : W p l e R s m args below meth c H locs cells slots Qf (F0 m pc ls (.ref a :: rest)) := by
  obtain ⟨x, h1, h3⟩ := hP
  obtain ⟨⟨hx, hb, hml, hown, hts⟩, hG, -⟩ := X
  exact va_alen hx hb hG.2.1 (va_P1 (hM a _ h1).2) 0 t rfl (ht K) rfl hdg (kk _ h3)
theorem r_lenE (X : Cx K p l s m args c cc nL own) (hM : mh K M H) (hS : va_S (mFA K) s.heap H locs) {k : Int32 → Mem → Prop} (hP : mLenE K a k M) (hdg : decode cc pc = .ok (.arraylength, 1))
    (kk : ∀ x : Int32, k x M → W p l e R s m args below meth c H locs cells slots Qf (F0 m (pc + 1) ls (.int x :: rest))) : W p l e R s m args below meth c H locs cells slots Qf (F0 m pc ls (.ref a :: rest)) := by
  unfold mLenE at hP
  split at hP
  · rename_i ha
    subst ha
    obtain ⟨⟨hx, hb, hml, hown, hts⟩, hG, -⟩ := X
    exact va_tlen hx hb hG.2.2.2.2.2.2.1.2 hS rfl hdg (kk _ hP)
  · exact r_len (t := 7) (fun _ => rfl) X hM hP hdg kk
theorem r_lenT (X : Cx K p l s m args c cc nL own) (hS : va_S (mFA K) s.heap H locs) {k : Int32 → Mem → Prop} (hP : mLenT K a k M) (hdg : decode cc pc = .ok (.arraylength, 1))
    (kk : ∀ x : Int32, k x M → W p l e R s m args below meth c H locs cells slots Qf (F0 m (pc + 1) ls (.int x :: rest))) : W p l e R s m args below meth c H locs cells slots Qf (F0 m pc ls (.ref a :: rest)) := by
  obtain ⟨h1, h3⟩ := hP
  obtain ⟨⟨hx, hb, hml, hown, hts⟩, hG, -⟩ := X
  obtain ⟨⟨-, t2⟩, -, t4⟩ := hG.2.2.2.2.2.1
  rcases h1 with rfl | rfl
  · exact va_tlen hx hb t2 hS rfl hdg (kk _ h3)
  · exact va_tlen hx hb t4 hS rfl hdg (kk _ h3)
theorem r_ldt (X : Cx K p l s m args c cc nL own) (hS : va_S (mFA K) s.heap H locs) {i : Int32} {k : Int32 → Mem → Prop} (hP : mLdT K a i k M) (hdg : decode cc pc = .ok (.iaload, 1))
    (kk : ∀ x : Int32, k x M → W p l e R s m args below meth c H locs cells slots Qf (F0 m (pc + 1) ls (.int x :: rest))) : W p l e R s m args below meth c H locs cells slots Qf (F0 m pc ls (.int i :: .ref a :: rest)) := by
  obtain ⟨h1, h2, h3⟩ := hP
  obtain ⟨⟨hx, hb, hml, hown, hts⟩, hG, -⟩ := X
  obtain ⟨⟨-, t2⟩, -, t4⟩ := hG.2.2.2.2.2.1
  by_cases ha : a = K.2.2 2
  · rw [mTab, if_pos ha] at h3
    subst ha
    exact va_ti hx hb t2 hS h2 rfl hdg (kk _ h3)
  · rw [mTab, if_neg ha] at h3
    have h4 := h1.resolve_left ha
    subst h4
    exact va_ti hx hb t4 hS h2 rfl hdg (kk _ h3)
end MROWS
end
section
/-! ===== stores, makings, calls, ends, throws ===== -/
section MROWS2
variable {K : Cfg} {p : Program} {l : Launch} {e : Env} {R : Room} {s : State} {m : MethodId} {args : Array Value} {below : List Frame} {meth : Method} {c : Code} {H : Heap} {locs : List Loc} {cells slots : Nat} {Qf : State → Prop}
variable {cc : ByteArray} {nL : Nat} {own : String} {pc : Nat} {ls : Array Slot} {rest : List Value} {M : Mem} {a ci j index : Nat} {ref C : String} {T : u_T} {N : Nat}

def mPi (K : Cfg) (l : Launch) (y : MethodName) (cc : ByteArray) (maxL : Nat) (ret : Option FieldType) (rm : Room) (As : List Value) (F : (Int32 → Mem → Prop) → Mem → Prop) : Prop := mP K l y cc maxL ret rm As (fun Q => F (fun r => Q (some (.int r))))
def mXPi (K : Cfg) (l : Launch) (y : MethodName) (cc : ByteArray) (maxL : Nat) (ret : Option FieldType) (rm : Room) (As : List Value) (F : (Int32 → Mem → Prop) → (String → Mem → Prop) → Mem → Prop) : Prop := mXP K l y cc maxL ret rm As (fun Q => F (fun r => Q (some (.int r))))
theorem mPi.of {K : Cfg} {l : Launch} {y : MethodName} {cc : ByteArray} {maxL : Nat} {ret : Option FieldType} {rm : Room} {As : List Value} {F : (Int32 → Mem → Prop) → Mem → Prop} (hst : l.stackTraces = false) (hy : plainName y.cls = true) (hn : (lg_sl As).length ≤ maxL)
    (body : ∀ (M : Mem) (k : Int32 → Mem → Prop) (Q : Option Value → Mem → Prop), (∀ (r : Int32) (M1 : Mem), k r M1 → Q (some (.int r)) M1) → F k M → ∀ (p : Program) (e : Env) (s : State) (m : MethodId) (below : List Frame) (meth : Method) (c : Code), Cx K p l s m As.toArray c cc maxL y.cls → meth.sig.returnType = ret → meth.locks = false → meth.name = y.name → mh K M s.heap → ∀ ls, lv_has ls maxL (lv_args 0 As) →
      W p l e rm s m As.toArray below meth c s.heap [] 0 0 (MQ below (mQ K Q) As.toArray s rm.cells rm.slots (mFA K)) (F0 m 0 ls [])) : mPi K l y cc maxL ret rm As F :=
  mP.of hst hy hn (fun M Q hP => body M _ Q (fun r M1 h => h) hP)
theorem mXPi.of {K : Cfg} {l : Launch} {y : MethodName} {cc : ByteArray} {maxL : Nat} {ret : Option FieldType} {rm : Room} {As : List Value} {F : (Int32 → Mem → Prop) → (String → Mem → Prop) → Mem → Prop} (hst : l.stackTraces = false) (hy : plainName y.cls = true) (hn : (lg_sl As).length ≤ maxL)
    (body : ∀ (M : Mem) (k : Int32 → Mem → Prop) (Q : Option Value → Mem → Prop) (QX : String → Mem → Prop), (∀ (r : Int32) (M1 : Mem), k r M1 → Q (some (.int r)) M1) → F k QX M → ∀ (p : Program) (e : Env) (s : State) (m : MethodId) (below : List Frame) (meth : Method) (c : Code), Cx K p l s m As.toArray c cc maxL y.cls → meth.sig.returnType = ret → meth.locks = false → (∀ x ∈ c.exceptionTable.toList, False) → mh K M s.heap → ∀ ls, lv_has ls maxL (lv_args 0 As) →
      W p l e rm s m As.toArray below meth c s.heap [] 0 0 (vy_MQ below (mQ K Q) (mX K QX) As.toArray s 0 0 1 6 (mFA K)) (F0 m 0 ls [])) : mXPi K l y cc maxL ret rm As F :=
  mXP.of hst hy hn (fun M Q QX hP => body M _ Q QX (fun r M1 h => h) hP)
def mPl (K : Cfg) (l : Launch) (y : MethodName) (cc : ByteArray) (maxL : Nat) (ret : Option FieldType) (rm : Room) (As : List Value) (F : (Int64 → Mem → Prop) → Mem → Prop) : Prop := mP K l y cc maxL ret rm As (fun Q => F (fun r => Q (some (.long r))))
def mXPl (K : Cfg) (l : Launch) (y : MethodName) (cc : ByteArray) (maxL : Nat) (ret : Option FieldType) (rm : Room) (As : List Value) (F : (Int64 → Mem → Prop) → (String → Mem → Prop) → Mem → Prop) : Prop := mXP K l y cc maxL ret rm As (fun Q => F (fun r => Q (some (.long r))))
theorem mPl.of {K : Cfg} {l : Launch} {y : MethodName} {cc : ByteArray} {maxL : Nat} {ret : Option FieldType} {rm : Room} {As : List Value} {F : (Int64 → Mem → Prop) → Mem → Prop} (hst : l.stackTraces = false) (hy : plainName y.cls = true) (hn : (lg_sl As).length ≤ maxL)
    (body : ∀ (M : Mem) (k : Int64 → Mem → Prop) (Q : Option Value → Mem → Prop), (∀ (r : Int64) (M1 : Mem), k r M1 → Q (some (.long r)) M1) → F k M → ∀ (p : Program) (e : Env) (s : State) (m : MethodId) (below : List Frame) (meth : Method) (c : Code), Cx K p l s m As.toArray c cc maxL y.cls → meth.sig.returnType = ret → meth.locks = false → meth.name = y.name → mh K M s.heap → ∀ ls, lv_has ls maxL (lv_args 0 As) →
      W p l e rm s m As.toArray below meth c s.heap [] 0 0 (MQ below (mQ K Q) As.toArray s rm.cells rm.slots (mFA K)) (F0 m 0 ls [])) : mPl K l y cc maxL ret rm As F :=
  mP.of hst hy hn (fun M Q hP => body M _ Q (fun r M1 h => h) hP)
theorem mXPl.of {K : Cfg} {l : Launch} {y : MethodName} {cc : ByteArray} {maxL : Nat} {ret : Option FieldType} {rm : Room} {As : List Value} {F : (Int64 → Mem → Prop) → (String → Mem → Prop) → Mem → Prop} (hst : l.stackTraces = false) (hy : plainName y.cls = true) (hn : (lg_sl As).length ≤ maxL)
    (body : ∀ (M : Mem) (k : Int64 → Mem → Prop) (Q : Option Value → Mem → Prop) (QX : String → Mem → Prop), (∀ (r : Int64) (M1 : Mem), k r M1 → Q (some (.long r)) M1) → F k QX M → ∀ (p : Program) (e : Env) (s : State) (m : MethodId) (below : List Frame) (meth : Method) (c : Code), Cx K p l s m As.toArray c cc maxL y.cls → meth.sig.returnType = ret → meth.locks = false → (∀ x ∈ c.exceptionTable.toList, False) → mh K M s.heap → ∀ ls, lv_has ls maxL (lv_args 0 As) →
      W p l e rm s m As.toArray below meth c s.heap [] 0 0 (vy_MQ below (mQ K Q) (mX K QX) As.toArray s 0 0 1 6 (mFA K)) (F0 m 0 ls [])) : mXPl K l y cc maxL ret rm As F :=
  mXP.of hst hy hn (fun M Q QX hP => body M _ Q QX (fun r M1 h => h) hP)
def mPf (K : Cfg) (l : Launch) (y : MethodName) (cc : ByteArray) (maxL : Nat) (ret : Option FieldType) (rm : Room) (As : List Value) (F : (UInt32 → Mem → Prop) → Mem → Prop) : Prop := mP K l y cc maxL ret rm As (fun Q => F (fun r => Q (some (.float r))))
def mXPf (K : Cfg) (l : Launch) (y : MethodName) (cc : ByteArray) (maxL : Nat) (ret : Option FieldType) (rm : Room) (As : List Value) (F : (UInt32 → Mem → Prop) → (String → Mem → Prop) → Mem → Prop) : Prop := mXP K l y cc maxL ret rm As (fun Q => F (fun r => Q (some (.float r))))
theorem mPf.of {K : Cfg} {l : Launch} {y : MethodName} {cc : ByteArray} {maxL : Nat} {ret : Option FieldType} {rm : Room} {As : List Value} {F : (UInt32 → Mem → Prop) → Mem → Prop} (hst : l.stackTraces = false) (hy : plainName y.cls = true) (hn : (lg_sl As).length ≤ maxL)
    (body : ∀ (M : Mem) (k : UInt32 → Mem → Prop) (Q : Option Value → Mem → Prop), (∀ (r : UInt32) (M1 : Mem), k r M1 → Q (some (.float r)) M1) → F k M → ∀ (p : Program) (e : Env) (s : State) (m : MethodId) (below : List Frame) (meth : Method) (c : Code), Cx K p l s m As.toArray c cc maxL y.cls → meth.sig.returnType = ret → meth.locks = false → meth.name = y.name → mh K M s.heap → ∀ ls, lv_has ls maxL (lv_args 0 As) →
      W p l e rm s m As.toArray below meth c s.heap [] 0 0 (MQ below (mQ K Q) As.toArray s rm.cells rm.slots (mFA K)) (F0 m 0 ls [])) : mPf K l y cc maxL ret rm As F :=
  mP.of hst hy hn (fun M Q hP => body M _ Q (fun r M1 h => h) hP)
theorem mXPf.of {K : Cfg} {l : Launch} {y : MethodName} {cc : ByteArray} {maxL : Nat} {ret : Option FieldType} {rm : Room} {As : List Value} {F : (UInt32 → Mem → Prop) → (String → Mem → Prop) → Mem → Prop} (hst : l.stackTraces = false) (hy : plainName y.cls = true) (hn : (lg_sl As).length ≤ maxL)
    (body : ∀ (M : Mem) (k : UInt32 → Mem → Prop) (Q : Option Value → Mem → Prop) (QX : String → Mem → Prop), (∀ (r : UInt32) (M1 : Mem), k r M1 → Q (some (.float r)) M1) → F k QX M → ∀ (p : Program) (e : Env) (s : State) (m : MethodId) (below : List Frame) (meth : Method) (c : Code), Cx K p l s m As.toArray c cc maxL y.cls → meth.sig.returnType = ret → meth.locks = false → (∀ x ∈ c.exceptionTable.toList, False) → mh K M s.heap → ∀ ls, lv_has ls maxL (lv_args 0 As) →
      W p l e rm s m As.toArray below meth c s.heap [] 0 0 (vy_MQ below (mQ K Q) (mX K QX) As.toArray s 0 0 1 6 (mFA K)) (F0 m 0 ls [])) : mXPf K l y cc maxL ret rm As F :=
  mXP.of hst hy hn (fun M Q QX hP => body M _ Q QX (fun r M1 h => h) hP)
def mPd (K : Cfg) (l : Launch) (y : MethodName) (cc : ByteArray) (maxL : Nat) (ret : Option FieldType) (rm : Room) (As : List Value) (F : (UInt64 → Mem → Prop) → Mem → Prop) : Prop := mP K l y cc maxL ret rm As (fun Q => F (fun r => Q (some (.double r))))
def mXPd (K : Cfg) (l : Launch) (y : MethodName) (cc : ByteArray) (maxL : Nat) (ret : Option FieldType) (rm : Room) (As : List Value) (F : (UInt64 → Mem → Prop) → (String → Mem → Prop) → Mem → Prop) : Prop := mXP K l y cc maxL ret rm As (fun Q => F (fun r => Q (some (.double r))))
theorem mPd.of {K : Cfg} {l : Launch} {y : MethodName} {cc : ByteArray} {maxL : Nat} {ret : Option FieldType} {rm : Room} {As : List Value} {F : (UInt64 → Mem → Prop) → Mem → Prop} (hst : l.stackTraces = false) (hy : plainName y.cls = true) (hn : (lg_sl As).length ≤ maxL)
    (body : ∀ (M : Mem) (k : UInt64 → Mem → Prop) (Q : Option Value → Mem → Prop), (∀ (r : UInt64) (M1 : Mem), k r M1 → Q (some (.double r)) M1) → F k M → ∀ (p : Program) (e : Env) (s : State) (m : MethodId) (below : List Frame) (meth : Method) (c : Code), Cx K p l s m As.toArray c cc maxL y.cls → meth.sig.returnType = ret → meth.locks = false → meth.name = y.name → mh K M s.heap → ∀ ls, lv_has ls maxL (lv_args 0 As) →
      W p l e rm s m As.toArray below meth c s.heap [] 0 0 (MQ below (mQ K Q) As.toArray s rm.cells rm.slots (mFA K)) (F0 m 0 ls [])) : mPd K l y cc maxL ret rm As F :=
  mP.of hst hy hn (fun M Q hP => body M _ Q (fun r M1 h => h) hP)
theorem mXPd.of {K : Cfg} {l : Launch} {y : MethodName} {cc : ByteArray} {maxL : Nat} {ret : Option FieldType} {rm : Room} {As : List Value} {F : (UInt64 → Mem → Prop) → (String → Mem → Prop) → Mem → Prop} (hst : l.stackTraces = false) (hy : plainName y.cls = true) (hn : (lg_sl As).length ≤ maxL)
    (body : ∀ (M : Mem) (k : UInt64 → Mem → Prop) (Q : Option Value → Mem → Prop) (QX : String → Mem → Prop), (∀ (r : UInt64) (M1 : Mem), k r M1 → Q (some (.double r)) M1) → F k QX M → ∀ (p : Program) (e : Env) (s : State) (m : MethodId) (below : List Frame) (meth : Method) (c : Code), Cx K p l s m As.toArray c cc maxL y.cls → meth.sig.returnType = ret → meth.locks = false → (∀ x ∈ c.exceptionTable.toList, False) → mh K M s.heap → ∀ ls, lv_has ls maxL (lv_args 0 As) →
      W p l e rm s m As.toArray below meth c s.heap [] 0 0 (vy_MQ below (mQ K Q) (mX K QX) As.toArray s 0 0 1 6 (mFA K)) (F0 m 0 ls [])) : mXPd K l y cc maxL ret rm As F :=
  mXP.of hst hy hn (fun M Q QX hP => body M _ Q QX (fun r M1 h => h) hP)
def mPr (K : Cfg) (l : Launch) (y : MethodName) (cc : ByteArray) (maxL : Nat) (ret : Option FieldType) (rm : Room) (As : List Value) (F : (Nat → Mem → Prop) → Mem → Prop) : Prop := mP K l y cc maxL ret rm As (fun Q => F (fun r => Q (some (.ref r))))
def mXPr (K : Cfg) (l : Launch) (y : MethodName) (cc : ByteArray) (maxL : Nat) (ret : Option FieldType) (rm : Room) (As : List Value) (F : (Nat → Mem → Prop) → (String → Mem → Prop) → Mem → Prop) : Prop := mXP K l y cc maxL ret rm As (fun Q => F (fun r => Q (some (.ref r))))
theorem mPr.of {K : Cfg} {l : Launch} {y : MethodName} {cc : ByteArray} {maxL : Nat} {ret : Option FieldType} {rm : Room} {As : List Value} {F : (Nat → Mem → Prop) → Mem → Prop} (hst : l.stackTraces = false) (hy : plainName y.cls = true) (hn : (lg_sl As).length ≤ maxL)
    (body : ∀ (M : Mem) (k : Nat → Mem → Prop) (Q : Option Value → Mem → Prop), (∀ (r : Nat) (M1 : Mem), k r M1 → Q (some (.ref r)) M1) → F k M → ∀ (p : Program) (e : Env) (s : State) (m : MethodId) (below : List Frame) (meth : Method) (c : Code), Cx K p l s m As.toArray c cc maxL y.cls → meth.sig.returnType = ret → meth.locks = false → meth.name = y.name → mh K M s.heap → ∀ ls, lv_has ls maxL (lv_args 0 As) →
      W p l e rm s m As.toArray below meth c s.heap [] 0 0 (MQ below (mQ K Q) As.toArray s rm.cells rm.slots (mFA K)) (F0 m 0 ls [])) : mPr K l y cc maxL ret rm As F :=
  mP.of hst hy hn (fun M Q hP => body M _ Q (fun r M1 h => h) hP)
theorem mXPr.of {K : Cfg} {l : Launch} {y : MethodName} {cc : ByteArray} {maxL : Nat} {ret : Option FieldType} {rm : Room} {As : List Value} {F : (Nat → Mem → Prop) → (String → Mem → Prop) → Mem → Prop} (hst : l.stackTraces = false) (hy : plainName y.cls = true) (hn : (lg_sl As).length ≤ maxL)
    (body : ∀ (M : Mem) (k : Nat → Mem → Prop) (Q : Option Value → Mem → Prop) (QX : String → Mem → Prop), (∀ (r : Nat) (M1 : Mem), k r M1 → Q (some (.ref r)) M1) → F k QX M → ∀ (p : Program) (e : Env) (s : State) (m : MethodId) (below : List Frame) (meth : Method) (c : Code), Cx K p l s m As.toArray c cc maxL y.cls → meth.sig.returnType = ret → meth.locks = false → (∀ x ∈ c.exceptionTable.toList, False) → mh K M s.heap → ∀ ls, lv_has ls maxL (lv_args 0 As) →
      W p l e rm s m As.toArray below meth c s.heap [] 0 0 (vy_MQ below (mQ K Q) (mX K QX) As.toArray s 0 0 1 6 (mFA K)) (F0 m 0 ls [])) : mXPr K l y cc maxL ret rm As F :=
  mXP.of hst hy hn (fun M Q QX hP => body M _ Q QX (fun r M1 h => h) hP)
def mPv (K : Cfg) (l : Launch) (y : MethodName) (cc : ByteArray) (maxL : Nat) (ret : Option FieldType) (rm : Room) (As : List Value) (F : (Mem → Prop) → Mem → Prop) : Prop := mP K l y cc maxL ret rm As (fun Q => F (Q none))
def mXPv (K : Cfg) (l : Launch) (y : MethodName) (cc : ByteArray) (maxL : Nat) (ret : Option FieldType) (rm : Room) (As : List Value) (F : (Mem → Prop) → (String → Mem → Prop) → Mem → Prop) : Prop := mXP K l y cc maxL ret rm As (fun Q => F (Q none))
theorem mPv.of {K : Cfg} {l : Launch} {y : MethodName} {cc : ByteArray} {maxL : Nat} {ret : Option FieldType} {rm : Room} {As : List Value} {F : (Mem → Prop) → Mem → Prop} (hst : l.stackTraces = false) (hy : plainName y.cls = true) (hn : (lg_sl As).length ≤ maxL)
    (body : ∀ (M : Mem) (k : Mem → Prop) (Q : Option Value → Mem → Prop), (∀ M1 : Mem, k M1 → Q none M1) → F k M → ∀ (p : Program) (e : Env) (s : State) (m : MethodId) (below : List Frame) (meth : Method) (c : Code), Cx K p l s m As.toArray c cc maxL y.cls → meth.sig.returnType = ret → meth.locks = false → meth.name = y.name → mh K M s.heap → ∀ ls, lv_has ls maxL (lv_args 0 As) →
      W p l e rm s m As.toArray below meth c s.heap [] 0 0 (MQ below (mQ K Q) As.toArray s rm.cells rm.slots (mFA K)) (F0 m 0 ls [])) : mPv K l y cc maxL ret rm As F :=
  mP.of hst hy hn (fun M Q hP => body M _ Q (fun M1 h => h) hP)
theorem mXPv.of {K : Cfg} {l : Launch} {y : MethodName} {cc : ByteArray} {maxL : Nat} {ret : Option FieldType} {rm : Room} {As : List Value} {F : (Mem → Prop) → (String → Mem → Prop) → Mem → Prop} (hst : l.stackTraces = false) (hy : plainName y.cls = true) (hn : (lg_sl As).length ≤ maxL)
    (body : ∀ (M : Mem) (k : Mem → Prop) (Q : Option Value → Mem → Prop) (QX : String → Mem → Prop), (∀ M1 : Mem, k M1 → Q none M1) → F k QX M → ∀ (p : Program) (e : Env) (s : State) (m : MethodId) (below : List Frame) (meth : Method) (c : Code), Cx K p l s m As.toArray c cc maxL y.cls → meth.sig.returnType = ret → meth.locks = false → (∀ x ∈ c.exceptionTable.toList, False) → mh K M s.heap → ∀ ls, lv_has ls maxL (lv_args 0 As) →
      W p l e rm s m As.toArray below meth c s.heap [] 0 0 (vy_MQ below (mQ K Q) (mX K QX) As.toArray s 0 0 1 6 (mFA K)) (F0 m 0 ls [])) : mXPv K l y cc maxL ret rm As F :=
  mXP.of hst hy hn (fun M Q QX hP => body M _ Q QX (fun M1 h => h) hP)
theorem r_sti (X : Cx K p l s m args c cc nL own) (hM : mh K M H) (hS : va_S (mFA K) s.heap H locs) {i : Int32} {x : Int32} {k : Mem → Prop} (hP : mStI K a i x k M) (hdg : decode cc pc = .ok (.iastore, 1))
    (kk : ∀ (M1 : Mem) (H1 : Heap) (locs1 : List Loc), mh K M1 H1 → va_S (mFA K) s.heap H1 locs1 → k M1 → W p l e R s m args below meth c H1 locs1 cells slots Qf (F0 m (pc + 1) ls rest)) : W p l e R s m args below meth c H locs cells slots Qf (F0 m pc ls (.int x :: .int i :: .ref a :: rest)) := by
  obtain ⟨n, f, h1, h2, h3⟩ := hP
  obtain ⟨⟨hx, hb, hml, hown, hts⟩, hG, -⟩ := X
  refine W.iast hx hb (hM a _ h1).2 ((hG.2.1.2 0 _ rfl).1 n (fun j => .int (f j))) (fun q => by cases q) (by show ¬ (i < 0 ∨ (arrV _ _ _).slots.size ≤ _); rw [arrV_size]; exact h2) rfl rfl hdg fun H1 e z oq => ?_
  refine kk _ H1 _ (hM.put (hM a _ h1).1 ?_ oq) (hS.put z oq (hM a _ h1).1) h3
  show H1[a]? = some (vp_cell _ _)
  rw [e]
  rw [vp_cell_i, vp_cell_i, arrV_store]
  congr 2
  funext q
  by_cases hq : q = i.toNatClampNeg
  · subst hq
    simp [updV, upd]
  · simp [updV, upd, hq]
theorem r_stl (X : Cx K p l s m args c cc nL own) (hM : mh K M H) (hS : va_S (mFA K) s.heap H locs) {i : Int32} {x : Int64} {k : Mem → Prop} (hP : mStL K a i x k M) (hdg : decode cc pc = .ok (.lastore, 1))
    (kk : ∀ (M1 : Mem) (H1 : Heap) (locs1 : List Loc), mh K M1 H1 → va_S (mFA K) s.heap H1 locs1 → k M1 → W p l e R s m args below meth c H1 locs1 cells slots Qf (F0 m (pc + 1) ls rest)) : W p l e R s m args below meth c H locs cells slots Qf (F0 m pc ls (.long x :: .int i :: .ref a :: rest)) := by
  obtain ⟨n, f, h1, h2, h3⟩ := hP
  obtain ⟨⟨hx, hb, hml, hown, hts⟩, hG, -⟩ := X
  refine W.last hx hb (hM a _ h1).2 ((hG.2.1.2 1 _ rfl).1 n (fun j => .long (f j))) (fun q => by cases q) (by show ¬ (i < 0 ∨ (arrV _ _ _).slots.size ≤ _); rw [arrV_size]; exact h2) rfl rfl hdg fun H1 e z oq => ?_
  refine kk _ H1 _ (hM.put (hM a _ h1).1 ?_ oq) (hS.put z oq (hM a _ h1).1) h3
  show H1[a]? = some (vp_cell _ _)
  rw [e]
  rw [vp_cell_l, vp_cell_l, arrV_store]
  congr 2
  funext q
  by_cases hq : q = i.toNatClampNeg
  · subst hq
    simp [updV, vp_updL]
  · simp [updV, vp_updL, hq]
theorem r_std (X : Cx K p l s m args c cc nL own) (hM : mh K M H) (hS : va_S (mFA K) s.heap H locs) {i : Int32} {x : UInt64} {k : Mem → Prop} (hP : mStD K a i x k M) (hdg : decode cc pc = .ok (.dastore, 1))
    (kk : ∀ (M1 : Mem) (H1 : Heap) (locs1 : List Loc), mh K M1 H1 → va_S (mFA K) s.heap H1 locs1 → k M1 → W p l e R s m args below meth c H1 locs1 cells slots Qf (F0 m (pc + 1) ls rest)) : W p l e R s m args below meth c H locs cells slots Qf (F0 m pc ls (.double x :: .int i :: .ref a :: rest)) := by
  obtain ⟨n, f, h1, h2, h3⟩ := hP
  obtain ⟨⟨hx, hb, hml, hown, hts⟩, hG, -⟩ := X
  refine W.dast hx hb (hM a _ h1).2 ((hG.2.1.2 2 _ rfl).1 n (fun j => .double (f j))) (fun q => by cases q) (by show ¬ (i < 0 ∨ (arrV _ _ _).slots.size ≤ _); rw [arrV_size]; exact h2) rfl rfl hdg fun H1 e z oq => ?_
  refine kk _ H1 _ (hM.put (hM a _ h1).1 ?_ oq) (hS.put z oq (hM a _ h1).1) h3
  show H1[a]? = some (vp_cell _ _)
  rw [e]
  rw [vp_cell_d, vp_cell_d, arrV_store]
  congr 2
  funext q
  by_cases hq : q = i.toNatClampNeg
  · subst hq
    simp [updV, vf_upd]
  · simp [updV, vf_upd, hq]
theorem r_stz (X : Cx K p l s m args c cc nL own) (hM : mh K M H) (hS : va_S (mFA K) s.heap H locs) {i x : Int32} {k : Mem → Prop} (hP : mStZ K a i x k M) (hdg : decode cc pc = .ok (.bastore, 1))
    (kk : ∀ (M1 : Mem) (H1 : Heap) (locs1 : List Loc), mh K M1 H1 → va_S (mFA K) s.heap H1 locs1 → k M1 → W p l e R s m args below meth c H1 locs1 cells slots Qf (F0 m (pc + 1) ls rest)) : W p l e R s m args below meth c H locs cells slots Qf (F0 m pc ls (.int x :: .int i :: .ref a :: rest)) := by
  obtain ⟨n, f, h1, h2, hz, h3⟩ := hP
  obtain ⟨⟨hx, hb, hml, hown, hts⟩, hG, -⟩ := X
  refine W.zast hx hb (hM a _ h1).2 ((hG.2.1.2 3 _ rfl).1 n (fun j => .int (f j))) (fun q => by cases q) (by show ¬ (i < 0 ∨ (arrV _ _ _).slots.size ≤ _); rw [arrV_size]; exact h2) rfl rfl hdg fun H1 e z oq => ?_
  refine kk _ H1 _ (hM.put (hM a _ h1).1 ?_ oq) (hS.put z oq (hM a _ h1).1) h3
  show H1[a]? = some (vp_cell _ _)
  rw [e]
  have hz1 := (narrow_z hz).1
  rw [hz1, vp_cell_i, vp_cell_i, arrV_store]
  congr 2
  funext q
  by_cases hq : q = i.toNatClampNeg
  · subst hq
    simp [updV, upd]
  · simp [updV, upd, hq]
theorem r_stq {t : Nat} (ht : ∀ K : Cfg, (mTys K)[t]? = some (K.2.1 t, .object C)) (hc : vwCl[ci]? = some (C, T, N)) (X : Cx K p l s m args c cc nL own) (hM : mh K M H) (hS : va_S (mFA K) s.heap H locs) {i : Int32} {v : Nat} {k : Mem → Prop} (hP : mStQ K t ci a i v k M) (hdg : decode cc pc = .ok (.aastore, 1))
    (kk : ∀ (M1 : Mem) (H1 : Heap) (locs1 : List Loc), mh K M1 H1 → va_S (mFA K) s.heap H1 locs1 → k M1 → W p l e R s m args below meth c H1 locs1 cells slots Qf (F0 m (pc + 1) ls rest)) : W p l e R s m args below meth c H locs cells slots Qf (F0 m pc ls (.ref v :: .int i :: .ref a :: rest)) := by
  obtain ⟨n, f, fs, h1, hv, h2, h3⟩ := hP
  obtain ⟨⟨hx, hb, hml, hown, hts⟩, hG, -⟩ := X
  have hlt : i.toNatClampNeg < n := Nat.not_le.mp fun q => h2 (Or.inr q)
  have h0 : ¬ i < 0 := fun q => h2 (Or.inl q)
  obtain ⟨-, r', hr', cellV, g1, g2, g3, -⟩ := hM v _ hv
  have hK := hG.2.1
  have hcls := (hK.1 ci _ hc).2
  obtain ⟨kA, comp, k1, k2, k3, -⟩ := (hK.2 t _ (ht K)).2
  have hcomp : comp = K.1.1 ci := Option.some.inj (k3.symm.trans hcls.1)
  subst hcomp
  obtain ⟨kC, hkC, -⟩ := hcls.2
  refine W.aast hx hb (hM a _ h1).2 (fun q h => by cases h) (fun h => by cases h) k1 k2 rfl hkC ⟨h0, by show _ < (arrV _ _ _).slots.size; rw [arrV_size]; exact hlt⟩ g1 (fun q h => by rw [g3] at h; cases h) (by rw [g2]; exact hkC) (by rw [g2]; exact va_assign hcls) rfl rfl hdg fun H1 e z oq => ?_
  refine kk _ H1 _ (hM.put (hM a _ h1).1 ?_ oq) (hS.put z oq (hM a _ h1).1) h3
  show H1[a]? = some (vp_cell _ _)
  rw [e]
  rw [vp_cell_q, vp_cell_q, arrV_store]
  congr 2
  funext q
  by_cases hq : q = i.toNatClampNeg
  · subst hq
    simp [updV, va_up, va_rf]
  · simp [updV, va_up, hq]
/-- an object of ours into an Object[]: any object may lie there -/
theorem r_stqO (hc : vwCl[ci]? = some (C, T, N)) (hcast : (C, "java/lang/Object") ∈ mNwC) (X : Cx K p l s m args c cc nL own) (hM : mh K M H) (hS : va_S (mFA K) s.heap H locs) {i : Int32} {v : Nat} {k : Mem → Prop} (hP : mStQ K 7 ci a i v k M) (hdg : decode cc pc = .ok (.aastore, 1))
    (kk : ∀ (M1 : Mem) (H1 : Heap) (locs1 : List Loc), mh K M1 H1 → va_S (mFA K) s.heap H1 locs1 → k M1 → W p l e R s m args below meth c H1 locs1 cells slots Qf (F0 m (pc + 1) ls rest)) : W p l e R s m args below meth c H locs cells slots Qf (F0 m pc ls (.ref v :: .int i :: .ref a :: rest)) := by
  obtain ⟨n, f, fs, h1, hv, h2, h3⟩ := hP
  obtain ⟨⟨hx, hb, hml, hown, hts⟩, hG, -⟩ := X
  have hlt : i.toNatClampNeg < n := Nat.not_le.mp fun q => h2 (Or.inr q)
  have h0 : ¬ i < 0 := fun q => h2 (Or.inl q)
  obtain ⟨-, r', hr', cellV, g1, g2, g3, -⟩ := hM v _ hv
  have hK := hG.2.1
  have hcls := (hK.1 ci _ hc).2
  obtain ⟨kA, comp, k1, k2, k3, -⟩ := (hK.2 7 _ rfl).2
  obtain ⟨c3, c4, hc3, hc4, hasg⟩ := Cond.castable_spec (va_Nw.use (A := args) rfl (hG.2.2.1.2.2.1 _ hcast))
  have e3 : c3 = K.1.1 ci := Option.some.inj (hc3.symm.trans hcls.1)
  have e4 : c4 = comp := Option.some.inj (hc4.symm.trans k3)
  subst e3
  subst e4
  obtain ⟨kC, hkC, -⟩ := hcls.2
  obtain ⟨kO, hkO, -⟩ := Vm.findClass_spec k3
  refine W.aast hx hb (hM a _ h1).2 (fun q h => by cases h) (fun h => by cases h) k1 k2 rfl hkO ⟨h0, by show _ < (arrV _ _ _).slots.size; rw [arrV_size]; exact hlt⟩ g1 (fun q h => by rw [g3] at h; cases h) (by rw [g2]; exact hkC) (by rw [g2]; exact hasg) rfl rfl hdg fun H1 e z oq => ?_
  refine kk _ H1 _ (hM.put (hM a _ h1).1 ?_ oq) (hS.put z oq (hM a _ h1).1) h3
  show H1[a]? = some (vp_cell _ _)
  rw [e]
  rw [vp_cell_q, vp_cell_q, arrV_store]
  congr 2
  funext q
  by_cases hq : q = i.toNatClampNeg
  · subst hq
    simp [updV, va_up, va_rf]
  · simp [updV, va_up, hq]
/-- a class that a method of own makes -/
def mNl (own C : String) (T : u_T) (N ci index : Nat) : Prop := vwCl[ci]? = some (C, T, N) ∧ (∀ w ∈ u_ws C T N, w ∈ mLA) ∧ Cond.classLink own index C ∈ mLA ∧ Cond.instantiable C N ∈ mLA ∧ Cond.initialized C ∈ mLA
theorem mh.fresh {K : Cfg} {s : State} {M : Mem} {H : Heap} {locs : List Loc} (hG : GS K s) (hS : va_S (mFA K) s.heap H locs) (hM : mh K M H) : mFresh K M H.size := ⟨Nat.le_trans hG.1 hS.1, fun q e h => hM.lt h⟩
theorem va_S.grow {A : Nat → Prop} {H0 H H1 : Heap} {locs : List Loc} (hS : va_S A H0 H locs) (z : H.size ≤ H1.size) (o1 : ∀ q : Nat, q < H.size → H1[q]? = H[q]?) : va_S A H0 H1 locs := ⟨Nat.le_trans hS.1 z, fun x h1 h2 => (o1 x (Nat.lt_of_lt_of_le h1 hS.1)).trans (hS.2.1 x h1 h2), hS.2.2⟩
theorem mh.push {K : Cfg} {M : Mem} {H H1 : Heap} (hM : mh K M H) {e : va_E} (hA : K.2.2 0 ≤ H.size) (he : va_at K.1 vwCl (H.size, e) H1) (o1 : ∀ q : Nat, q < H.size → H1[q]? = H[q]?) : mh K (mUp M H.size e) H1 := by
  intro q e1 h1
  unfold mUp at h1
  split at h1
  · rename_i hq
    subst hq
    cases h1
    exact ⟨hA, he⟩
  · exact hM.kept o1 q e1 h1
theorem r_new (X : Cx K p l s m args c cc nL own) (hM : mh K M H) (hS : va_S (mFA K) s.heap H locs) {fs : List Value} {k : Nat → Mem → Prop} (hP : mNew K ci fs k M) (hn : mNl own C T N ci index) {ty : Nat → FieldType} (ht : mFt T N ty) (hfs : ∀ j, j < N → defaultValue (ty j) = vp_V fs j) (hcs : cells + 1 ≤ R.cells ∧ slots + N ≤ R.slots) (hdg : decode cc pc = .ok (.new index, 3))
    (kk : ∀ (q : Nat) (M1 : Mem) (H1 : Heap), mh K M1 H1 → va_S (mFA K) s.heap H1 locs → k q M1 → W p l e R s m args below meth c H1 locs (cells + 1) (slots + N) Qf (F0 m (pc + 3) ls (.ref q :: rest))) : W p l e R s m args below meth c H locs cells slots Qf (F0 m pc ls rest) := by
  obtain ⟨⟨hx, hb, hml, hown, hts⟩, hG, -⟩ := X
  obtain ⟨f1, f2, f3, f4, f5⟩ := hn
  have hKn := hG.2.1.1 ci _ f1
  refine W.newcK hx hb hown (hts _ f3) (hts _ f4) (hts _ f5) rfl hdg hcs.1 hcs.2 hKn.2.1 rfl fun H1 kC hkC e1 z1 o1 => ?_
  exact kk H.size _ H1 (hM.push (e := .inr (ci, fs)) (Nat.le_trans hG.1 hS.1) ⟨_, f1, (u_born ty hts f2 hKn hkC e1 ht.1).to hfs⟩ o1) (hS.grow (by omega) o1) (hP _ (mh.fresh hG hS hM))
theorem r_newa {t : Nat} {atype : ArrayType} (ht : ∀ K : Cfg, (mTys K)[t]? = some (K.2.1 t, newarray.typeOf atype)) (hpr : ∀ (U : State) (cA : ClassId), va_RA U cA (newarray.typeOf atype) → U.vm.findClass ("[" ++ (newarray.typeOf atype).toString) = some cA) (X : Cx K p l s m args c cc nL own) (hM : mh K M H) (hS : va_S (mFA K) s.heap H locs) (harr : Cond.arrayClass (newarray.typeOf atype) ∈ mLA) {z : vp_A} {k : Nat → Mem → Prop} (hP : mNewA K t z k M) {n : Int32} {n' : Nat} (hz : ∀ cA : ClassId, vp_cell cA z = arrV cA n' (fun _ => defaultValue (newarray.typeOf atype))) (hn : ¬ n < 0) (hn' : n.toNatClampNeg = n') (hby : n' * componentBytes (newarray.typeOf atype) ≤ 536870912) (hcs : cells + 1 ≤ R.cells ∧ slots + n' ≤ R.slots) (hdg : decode cc pc = .ok (.newarray atype, 2))
    (kk : ∀ (q : Nat) (M1 : Mem) (H1 : Heap), mh K M1 H1 → va_S (mFA K) s.heap H1 locs → k q M1 → W p l e R s m args below meth c H1 locs (cells + 1) (slots + n') Qf (F0 m (pc + 2) ls (.ref q :: rest))) : W p l e R s m args below meth c H locs cells slots Qf (F0 m pc ls (.int n :: rest)) := by
  obtain ⟨⟨hx, hb, hml, hown, hts⟩, hG, -⟩ := X
  refine va_newaK hx hb (hts _ harr) rfl hdg rfl hn hn' hby hcs.1 hcs.2 rfl fun H1 cA e1 z1 o1 hAr hNm => ?_
  have hA : cA = K.2.1 t := Option.some.inj (hNm.symm.trans (hpr s _ ((hG.2.1.2 t _ (ht K)).2)))
  subst hA
  exact kk H.size _ H1 (hM.push (Nat.le_trans hG.1 hS.1) (by show H1[H.size]? = some (vp_cell _ _); rw [hz]; exact e1) o1) (hS.grow (by omega) o1) (hP _ (mh.fresh hG hS hM))
theorem r_newq {t : Nat} (ht : ∀ K : Cfg, (mTys K)[t]? = some (K.2.1 t, .object C)) (hao : C ∈ mAOl) (hlk : Cond.classLink own index C ∈ mLA) (X : Cx K p l s m args c cc nL own) (hM : mh K M H) (hS : va_S (mFA K) s.heap H locs) {n : Int32} {n' : Nat} {k : Nat → Mem → Prop} (hP : mNewA K t (n', .inr (.inr (.inr (.inr (fun _ => none))))) k M) (hn : ¬ n < 0) (hn' : n.toNatClampNeg = n') (hby : n' * 4 ≤ 536870912) (hcs : cells + 1 ≤ R.cells ∧ slots + n' ≤ R.slots) (hdg : decode cc pc = .ok (.anewarray index, 3))
    (kk : ∀ (q : Nat) (M1 : Mem) (H1 : Heap), mh K M1 H1 → va_S (mFA K) s.heap H1 locs → k q M1 → W p l e R s m args below meth c H1 locs (cells + 1) (slots + n') Qf (F0 m (pc + 3) ls (.ref q :: rest))) : W p l e R s m args below meth c H locs cells slots Qf (F0 m pc ls (.int n :: rest)) := by
  obtain ⟨⟨hx, hb, hml, hown, hts⟩, hG, -⟩ := X
  subst hn'
  refine W.anew hx hb hown (hts _ hlk) (va_AO.use (hG.2.2.2.1.2.1 _ hao)) rfl hdg rfl hn hby hcs.1 hcs.2 fun cA kA comp f1 f2 f3 f4 => ?_
  obtain ⟨kA', comp', g1, g2, g3, g4⟩ := (hG.2.1.2 t _ (ht K)).2
  have hA : cA = K.2.1 t := Option.some.inj (f1.symm.trans g4)
  subst hA
  generalize hH1 : H.push ({ cls := K.2.1 t, slots := Array.replicate n.toNatClampNeg .null, vm := .none } : Cell) = H1
  have z1 : H1.size = H.size + 1 := by rw [← hH1, Array.size_push]
  have e1 : H1[H.size]? = some (arrV (K.2.1 t) n.toNatClampNeg (fun _ => .null)) := by rw [← hH1, Array.getElem?_push_size, ← arrV_new]
  have o1 : ∀ q : Nat, q < H.size → H1[q]? = H[q]? := fun q hq => by rw [← hH1, Array.getElem?_push, if_neg (Nat.ne_of_lt hq)]
  exact kk H.size _ H1 (hM.push (Nat.le_trans hG.1 hS.1) (by show H1[H.size]? = some (vp_cell _ _); rw [vp_cell_q]; exact e1) o1) (hS.grow (by omega) o1) (hP _ (mh.fresh hG hS hM))
/-- new boolean[n][m] -/
theorem r_newz (hlk : Cond.classLink own index "[[Z" ∈ mLA) (harr : Cond.arrayClass .boolean ∈ mLA) (X : Cx K p l s m args c cc nL own) (hM : mh K M H) (hS : va_S (mFA K) s.heap H locs) {n k0 : Int32} {n' k' : Nat} {k : Nat → Mem → Prop} (hP : mNewZ K n' k' k M) (hn : ¬ n < 0) (hk : ¬ k0 < 0) (hn' : n.toNatClampNeg = n') (hk' : k0.toNatClampNeg = k') (hb1 : n' * 4 ≤ 536870912) (hb2 : k' ≤ 536870912) (hcs : cells + (1 + n') ≤ R.cells ∧ slots + (n' + n' * k') ≤ R.slots) (hdg : decode cc pc = .ok (.multianewarray index 2, 4))
    (kk : ∀ (q : Nat) (M1 : Mem) (H1 : Heap), mh K M1 H1 → va_S (mFA K) s.heap H1 locs → k q M1 → W p l e R s m args below meth c H1 locs (cells + 1 + n') (slots + n' + n' * k') Qf (F0 m (pc + 4) ls (.ref q :: rest))) : W p l e R s m args below meth c H locs cells slots Qf (F0 m pc ls (.int k0 :: .int n :: rest)) := by
  subst hn'
  subst hk'
  obtain ⟨⟨hx, hb, hml, hown, hts⟩, hG, -⟩ := X
  intro T hT Xs
  have hcy : s.vm.findClass (FieldType.array .boolean).toString = some (K.2.1 3) := (hG.2.1.2 3 _ rfl).2
  have hcA : s.vm.findClass ("[" ++ (FieldType.array .boolean).toString) = some (K.2.1 8) := (hG.2.1.2 8 _ rfl).2
  obtain ⟨vm₁, cA, comp, -, fA, fC, hO, -, X', step⟩ := Xs.multianewarray2F (ty := .boolean) hx hown (hts _ hlk) (va_AOA.use hG.2.2.2.1.2.2.1) (hts _ harr) (g := F0 m pc ls (.int k0 :: .int n :: rest)) rfl (by rw [hb]; exact hdg) rfl hn hk hb1 (by show _ * 1 ≤ _; omega) hb2 rfl rfl hcs.1 hcs.2
  have ec : comp = K.2.1 3 := Option.some.inj (fC.symm.trans hcy)
  have eA : cA = K.2.1 8 := Option.some.inj (fA.symm.trans hcA)
  subst ec
  subst eA
  generalize hF : Jvm.Free.Multi.fill (T.setVm vm₁) (K.2.1 8) (K.2.1 3) n.toNatClampNeg k0.toNatClampNeg (defaultValue .boolean) n.toNatClampNeg = F at X' step
  have hTh : (T.setVm vm₁).heap = H := hT
  obtain ⟨f1, f2, -, -⟩ := Jvm.Free.Multi.fill_facts (T.setVm vm₁) (K.2.1 8) (K.2.1 3) n.toNatClampNeg k0.toNatClampNeg (defaultValue .boolean) n.toNatClampNeg
  rw [hF, hTh] at f1 f2
  have hold : ∀ x : Nat, x < H.size → F.heap[x]? = H[x]? := fun x hx => by
    have := Jvm.Free.Multi.fill_old (T.setVm vm₁) (K.2.1 8) (K.2.1 3) n.toNatClampNeg k0.toNatClampNeg (defaultValue .boolean) (a := x) (by rw [hTh]; exact hx) n.toNatClampNeg
    rw [hF, hTh] at this
    exact this
  have hrow : ∀ j : Nat, j < n.toNatClampNeg → F.heap[H.size + 1 + j]? = some (vp_cell (K.2.1 3) (k0.toNatClampNeg, .inl (fun _ => 0))) := fun j hj => by
    have := Jvm.Free.Multi.fill_inner (T.setVm vm₁) (K.2.1 8) (K.2.1 3) n.toNatClampNeg k0.toNatClampNeg (defaultValue .boolean) n.toNatClampNeg j hj
    rw [hF, hTh] at this
    rw [this, vp_cell_i]
    exact congrArg some (arrV_new _ _ _)
  have hout : Jvm.Free.Multi.outerC (K.2.1 8) n.toNatClampNeg H.size n.toNatClampNeg = vp_cell (K.2.1 8) (n.toNatClampNeg, .inr (.inr (.inr (.inr (fun i => if i < n.toNatClampNeg then some (H.size + 1 + i) else none))))) := by
    rw [vp_cell_q]
    exact vr_outer (K.2.1 8) n.toNatClampNeg H.size n.toNatClampNeg
  rw [hout] at f2
  have hA : K.2.2 0 ≤ H.size := Nat.le_trans hG.1 hS.1
  have hM1 := hP H.size (mh.fresh hG hS hM)
  obtain ⟨t, a1, b1⟩ := kk H.size _ F.heap (by
      intro q e1 h1
      dsimp only at h1
      split at h1
      · rename_i hq
        subst hq
        cases h1
        exact ⟨hA, f2⟩
      · split at h1
        · rename_i hq hq2
          cases h1
          refine ⟨by omega, ?_⟩
          have h5 := hrow (q - H.size - 1) (by omega)
          rw [show H.size + 1 + (q - H.size - 1) = q by omega] at h5
          exact h5
        · exact hM.kept hold q e1 h1) (hS.grow (by rw [f1]; omega) hold) hM1 F rfl X'
  refine ⟨t, step t ?_, b1⟩
  have e : T.heap.size = H.size := by rw [hT]
  rw [e]
  exact a1
def vI (k : Int32 → Mem → Prop) : Option Value → Mem → Prop := fun v => match v with | some (.int r) => k r | _ => fun _ => False
def vL (k : Int64 → Mem → Prop) : Option Value → Mem → Prop := fun v => match v with | some (.long r) => k r | _ => fun _ => False
def vF (k : UInt32 → Mem → Prop) : Option Value → Mem → Prop := fun v => match v with | some (.float r) => k r | _ => fun _ => False
def vD (k : UInt64 → Mem → Prop) : Option Value → Mem → Prop := fun v => match v with | some (.double r) => k r | _ => fun _ => False
def vR (k : Nat → Mem → Prop) : Option Value → Mem → Prop := fun v => match v with | some (.ref r) => k r | _ => fun _ => False
def vV (k : Mem → Prop) : Option Value → Mem → Prop := fun v => match v with | none => k | _ => fun _ => False
theorem vI_of {k : Int32 → Mem → Prop} {v : Option Value} {M : Mem} (h : vI k v M) : ∃ r, v = some (.int r) ∧ k r M := by
  unfold vI at h
  split at h
  · exact ⟨_, rfl, h⟩
  · exact h.elim
theorem vL_of {k : Int64 → Mem → Prop} {v : Option Value} {M : Mem} (h : vL k v M) : ∃ r, v = some (.long r) ∧ k r M := by
  unfold vL at h
  split at h
  · exact ⟨_, rfl, h⟩
  · exact h.elim
theorem vF_of {k : UInt32 → Mem → Prop} {v : Option Value} {M : Mem} (h : vF k v M) : ∃ r, v = some (.float r) ∧ k r M := by
  unfold vF at h
  split at h
  · exact ⟨_, rfl, h⟩
  · exact h.elim
theorem vD_of {k : UInt64 → Mem → Prop} {v : Option Value} {M : Mem} (h : vD k v M) : ∃ r, v = some (.double r) ∧ k r M := by
  unfold vD at h
  split at h
  · exact ⟨_, rfl, h⟩
  · exact h.elim
theorem vR_of {k : Nat → Mem → Prop} {v : Option Value} {M : Mem} (h : vR k v M) : ∃ r, v = some (.ref r) ∧ k r M := by
  unfold vR at h
  split at h
  · exact ⟨_, rfl, h⟩
  · exact h.elim
theorem vV_of {k : Mem → Prop} {v : Option Value} {M : Mem} (h : vV k v M) : v = none ∧ k M := by
  unfold vV at h
  split at h
  · exact ⟨rfl, h⟩
  · exact h.elim
/-- what is said of a method that is called: by own, at a place of its pool; n arguments -/
def mMl (own : String) (index : Nat) (y : MethodName) (cc : ByteArray) (maxL : Nat) (ret : Option FieldType) (n : Nat) : Prop :=
  Cond.methodLink own index y ∈ mLA ∧ Cond.code y cc maxL ret ∈ mLA ∧ Cond.initialized y.cls ∈ mLA ∧ (y.cls ≠ "java/lang/invoke/MethodHandle" ∧ y.cls ≠ "java/lang/invoke/VarHandle" ∧ (parseMethodDescriptor y.desc).map (fun d => d.parameters.length) = some n)
def mMV (own : String) (index : Nat) (y : MethodName) (cc : ByteArray) (maxL : Nat) (ret : Option FieldType) (n : Nat) : Prop := mMl own index y cc maxL ret n ∧ Cond.instanceMethod y ∈ mLA ∧ Cond.selects y.cls y y ∈ mLA
def mMS (own : String) (index : Nat) (y : MethodName) (cc : ByteArray) (maxL : Nat) (ret : Option FieldType) (n : Nat) : Prop := mMl own index y cc maxL ret n ∧ Cond.static y ∈ mLA
def mMI (own : String) (index : Nat) (y : MethodName) (cc : ByteArray) (maxL : Nat) (ret : Option FieldType) (n : Nat) : Prop := mMl own index y cc maxL ret n ∧ y.name = "<init>" ∧ Cond.instanceMethod y ∈ mLA
/-- the rooms: the callee's frames, its locals, its cells and slots -/
def mRm (rm R : Room) (maxL cells slots : Nat) : Prop := (rm.frames + 1 ≤ R.frames ∧ 8 + (maxL + 11) + rm.locals ≤ R.locals) ∧ (cells + rm.cells ≤ R.cells ∧ slots + rm.slots ≤ R.slots)
variable {y : MethodName} {cc' : ByteArray} {maxL' n : Nat} {ret' : Option FieldType} {rm : Room} {As : List Value} {b : Nat} {st0 : List Value}
theorem mWs_good (hc : Cond.code y cc' maxL' ret' ∈ mLA) : GoodIn mLA (mWs y cc' maxL' ret') := fun w h => (List.mem_cons.mp h).elim (fun e => by rw [e]; exact ⟨hc, mLA_good hc⟩) (fun h => ⟨h, mLA_good h⟩)
theorem mMl.cb (h : mMl own index y cc' maxL' ret' n) (X : Cx K p l s m args c cc nL own) (hrm : mRm rm R maxL' cells slots) : CallB R s args own index y cc' maxL' ret' (mWs y cc' maxL' ret') rm rm.cells rm.slots n :=
  callB_of n X.1.2.2.2.2 (mWs_good h.2.1) rfl rfl rfl (X.1.2.2.2.2 _ h.2.2.1) (X.1.2.2.2.2 _ h.1) h.2.2.2 hrm.1
theorem r_call {mc ms : Nat} {Q : Option Value → Mem → Prop} {a9 : Array Value} (hr : va_Run p l e R s m args below meth c H locs cells slots mc ms (F0 m pc ls st0) rest (mQ K Q a9) (mFA K)) (hS : va_S (mFA K) s.heap H locs)
    (kk : ∀ (v : Option Value) (M1 : Mem) (H1 : Heap) (locs1 : List Loc), mh K M1 H1 → va_S (mFA K) s.heap H1 locs1 → Q v M1 → W p l e R s m args below meth c H1 locs1 (cells + mc) (slots + ms) Qf (F0 m (pc + 3) ls (v.toList ++ rest))) : W p l e R s m args below meth c H locs cells slots Qf (F0 m pc ls st0) := by
  intro T hT X
  obtain ⟨v, st₀, t, T', L, h0, X', hL, e1, e2, ⟨v', M1, hv, hq, hm, hF⟩, st⟩ := hr T hT X
  cases hv
  obtain ⟨k1, k2, k3⟩ := vx_keep (A0 := mFA K) (A1 := mFA K) (free := mFA K) h0 e1 hS (fun q _ h => h) (fun q h => h) hL hF
  obtain ⟨t2, a1, b1⟩ := kk v M1 T'.heap (locs ++ L) (by rw [e1]; exact hm) k3 hq T' rfl X'
  exact ⟨t2, st t2 a1, b1⟩
theorem r_call5 {mc ms : Nat} {Q : Option Value → Mem → Prop} {a9 : Array Value} (hr : va_Run5 p l e R s m args below meth c H locs cells slots mc ms (F0 m pc ls st0) rest (mQ K Q a9) (mFA K)) (hS : va_S (mFA K) s.heap H locs)
    (kk : ∀ (v : Option Value) (M1 : Mem) (H1 : Heap) (locs1 : List Loc), mh K M1 H1 → va_S (mFA K) s.heap H1 locs1 → Q v M1 → W p l e R s m args below meth c H1 locs1 (cells + mc) (slots + ms) Qf (F0 m (pc + 5) ls (v.toList ++ rest))) : W p l e R s m args below meth c H locs cells slots Qf (F0 m pc ls st0) := by
  intro T hT X
  obtain ⟨v, st₀, t, T', L, h0, X', hL, e1, e2, ⟨v', M1, hv, hq, hm, hF⟩, st⟩ := hr T hT X
  cases hv
  obtain ⟨k1, k2, k3⟩ := vx_keep (A0 := mFA K) (A1 := mFA K) (free := mFA K) h0 e1 hS (fun q _ h => h) (fun q h => h) hL hF
  obtain ⟨t2, a1, b1⟩ := kk v M1 T'.heap (locs ++ L) (by rw [e1]; exact hm) k3 hq T' rfl X'
  exact ⟨t2, st t2 a1, b1⟩
/-- a call of a method that may throw: kx goes on where it has thrown -/
theorem rx_call {Q : Option Value → Mem → Prop} {QX : String → Mem → Prop} {a9 : Array Value} (hr : vy_Run p l e R s m args below meth c H locs cells slots 0 0 1 6 (F0 m pc ls st0) rest (mQ K Q a9) (mX K QX) (mFA K)) (hS : va_S (mFA K) s.heap H locs)
    (kx : ∀ (E : String) (ce : Cell) (q9 : Addr) (M1 : Mem) (H1 : Heap) (locs1 : List Loc), mh K M1 H1 → va_S (mFA K) s.heap H1 locs1 → QX E M1 → H1[q9]? = some ce → ce.vm = .none → s.vm.findClass E = some ce.cls → vx_W p l e R s m args below meth c H1 locs1 (cells + 1) (slots + 6) Qf (F0 m pc ls rest) q9)
    (kk : ∀ (v : Option Value) (M1 : Mem) (H1 : Heap) (locs1 : List Loc), mh K M1 H1 → va_S (mFA K) s.heap H1 locs1 → Q v M1 → W p l e R s m args below meth c H1 locs1 cells slots Qf (F0 m (pc + 3) ls (v.toList ++ rest))) : W p l e R s m args below meth c H locs cells slots Qf (F0 m pc ls st0) := by
  intro T hT X
  rcases hr T hT X with ⟨v, st₀, t, T', L, h0, X', hL, e1, e2, ⟨v', M1, hv, hq, hm, hF⟩, st⟩ | ⟨q, st₀, t, T', L, E, ce, h0, X', hL, e1, e2, ⟨M1, hq, hm, hF⟩, hce, hcv, hcl, st⟩
  · cases hv
    obtain ⟨k1, k2, k3⟩ := vx_keep (A0 := mFA K) (A1 := mFA K) (free := mFA K) h0 e1 hS (fun q _ h => h) (fun q h => h) hL hF
    obtain ⟨t2, a1, b1⟩ := kk v M1 T'.heap (locs ++ L) (by rw [e1]; exact hm) k3 hq T' rfl X'
    exact ⟨t2, st t2 a1, b1⟩
  · obtain ⟨k1, k2, k3⟩ := vx_keep (A0 := mFA K) (A1 := mFA K) (free := mFA K) h0 e1 hS (fun q _ h => h) (fun q h => h) hL hF
    obtain ⟨t2, a1, b1⟩ := kx E ce q M1 T'.heap (locs ++ L) (by rw [e1]; exact hm) k3 hq (by rw [e1]; exact hce) hcv hcl T' rfl X'
    exact ⟨t2, st.trans a1, b1⟩
theorem mRecv_at {s : State} (hG : GS K s) (hM : mh K M H) (hc : vwCl[ci]? = some (y.cls, T, N)) (h : ∃ fs : List Value, M b = some (.inr (ci, fs))) : ∃ cellB : Cell, H[b]? = some cellB ∧ cellB.vm.isStatics = false ∧ s.vm.findClass y.cls = some cellB.cls := by
  obtain ⟨fs, hb⟩ := h
  exact va_recv hG.2.1 (va_P1 (hM b _ hb).2) (ci := ci) (q0 := 0) hc rfl
theorem r_callVi (X : Cx K p l s m args c cc nL own) (hM : mh K M H) (hS : va_S (mFA K) s.heap H locs) {F : (Int32 → Mem → Prop) → Mem → Prop} (hct : mPi K l y cc' maxL' ret' rm (.ref b :: As) F) {k : Int32 → Mem → Prop} (hP : mRecv b ci (F k) M) (hml : mMV own index y cc' maxL' ret' n) (hc : vwCl[ci]? = some (y.cls, T, N)) (hst : st0 = As.reverse ++ .ref b :: rest) (hn : As.length = n) (hsize : ls.size = nL) (hW : (rest.map fun v => v.category).sum ≤ 8) (hrm : mRm rm R maxL' cells slots) (hdg : decode cc pc = .ok (.invokevirtual index, 3))
    (kk : ∀ (r : Int32) (M1 : Mem) (H1 : Heap) (locs1 : List Loc), mh K M1 H1 → va_S (mFA K) s.heap H1 locs1 → k r M1 → W p l e R s m args below meth c H1 locs1 (cells + rm.cells) (slots + rm.slots) Qf (F0 m (pc + 3) ls (.int r :: rest))) : W p l e R s m args below meth c H locs cells slots Qf (F0 m pc ls st0) := by
  have hts := X.1.2.2.2.2
  exact r_call (va_runV X.1 (hct M (vI k) hP.2) ⟨hml.1.cb X hrm, hts _ hml.2.1, hts _ hml.2.2⟩ ⟨mPre_blind, mRecv_at X.2.1 hM hc hP.1, fun U hU hW9 => mPre_at X.2.1 hS hM hU hW9⟩ rfl hn hsize hst (lv_room hW) hdg hrm.2) hS (fun v M1 H1 locs1 hM1 hS1 hq => by
    obtain ⟨r, rfl, h⟩ := vI_of hq
    exact kk r M1 H1 locs1 hM1 hS1 h)
theorem r_callSi (X : Cx K p l s m args c cc nL own) (hM : mh K M H) (hS : va_S (mFA K) s.heap H locs) {F : (Int32 → Mem → Prop) → Mem → Prop} (hct : mPi K l y cc' maxL' ret' rm As F) {k : Int32 → Mem → Prop} (hP : F k M) (hml : mMS own index y cc' maxL' ret' n) (hst : st0 = As.reverse ++ rest) (hn : As.length = n) (hsize : ls.size = nL) (hW : (rest.map fun v => v.category).sum ≤ 8) (hrm : mRm rm R maxL' cells slots) (hdg : decode cc pc = .ok (.invokestatic index, 3))
    (kk : ∀ (r : Int32) (M1 : Mem) (H1 : Heap) (locs1 : List Loc), mh K M1 H1 → va_S (mFA K) s.heap H1 locs1 → k r M1 → W p l e R s m args below meth c H1 locs1 (cells + rm.cells) (slots + rm.slots) Qf (F0 m (pc + 3) ls (.int r :: rest))) : W p l e R s m args below meth c H locs cells slots Qf (F0 m pc ls st0) := by
  have hts := X.1.2.2.2.2
  exact r_call (va_runS X.1 (hct M (vI k) hP) ⟨hml.1.cb X hrm, hts _ hml.2⟩ ⟨mPre_blind, fun U hU hW9 => mPre_at X.2.1 hS hM hU hW9⟩ rfl hn hsize hst (lv_room hW) hdg hrm.2) hS (fun v M1 H1 locs1 hM1 hS1 hq => by
    obtain ⟨r, rfl, h⟩ := vI_of hq
    exact kk r M1 H1 locs1 hM1 hS1 h)
theorem rx_callVi (X : Cx K p l s m args c cc nL own) (hM : mh K M H) (hS : va_S (mFA K) s.heap H locs) {F : (Int32 → Mem → Prop) → (String → Mem → Prop) → Mem → Prop} (hct : mXPi K l y cc' maxL' ret' rm (.ref b :: As) F) {k : Int32 → Mem → Prop} {QX : String → Mem → Prop} (hP : mRecv b ci (F k QX) M) (hml : mMV own index y cc' maxL' ret' n) (hc : vwCl[ci]? = some (y.cls, T, N)) (hst : st0 = As.reverse ++ .ref b :: rest) (hn : As.length = n) (hsize : ls.size = nL) (hW : (rest.map fun v => v.category).sum ≤ 8) (hrm : mRm rm R maxL' cells slots) (hdg : decode cc pc = .ok (.invokevirtual index, 3))
    (kx : ∀ (E : String) (ce : Cell) (q9 : Addr) (M1 : Mem) (H1 : Heap) (locs1 : List Loc), mh K M1 H1 → va_S (mFA K) s.heap H1 locs1 → QX E M1 → H1[q9]? = some ce → ce.vm = .none → s.vm.findClass E = some ce.cls → vx_W p l e R s m args below meth c H1 locs1 (cells + 1) (slots + 6) Qf (F0 m pc ls rest) q9)
    (kk : ∀ (r : Int32) (M1 : Mem) (H1 : Heap) (locs1 : List Loc), mh K M1 H1 → va_S (mFA K) s.heap H1 locs1 → k r M1 → W p l e R s m args below meth c H1 locs1 cells slots Qf (F0 m (pc + 3) ls (.int r :: rest))) : W p l e R s m args below meth c H locs cells slots Qf (F0 m pc ls st0) := by
  have hts := X.1.2.2.2.2
  exact rx_call (vy_runV X.1 (hct M (vI k) QX hP.2) ⟨hml.1.cb X hrm, hts _ hml.2.1, hts _ hml.2.2⟩ ⟨mPre_blind, mRecv_at X.2.1 hM hc hP.1, fun U hU hW9 => mPre_at X.2.1 hS hM hU hW9⟩ rfl hn hsize hst (lv_room hW) hdg hrm.2) hS kx (fun v M1 H1 locs1 hM1 hS1 hq => by
    obtain ⟨r, rfl, h⟩ := vI_of hq
    exact kk r M1 H1 locs1 hM1 hS1 h)
theorem rx_callSi (X : Cx K p l s m args c cc nL own) (hM : mh K M H) (hS : va_S (mFA K) s.heap H locs) {F : (Int32 → Mem → Prop) → (String → Mem → Prop) → Mem → Prop} (hct : mXPi K l y cc' maxL' ret' rm As F) {k : Int32 → Mem → Prop} {QX : String → Mem → Prop} (hP : F k QX M) (hml : mMS own index y cc' maxL' ret' n) (hst : st0 = As.reverse ++ rest) (hn : As.length = n) (hsize : ls.size = nL) (hW : (rest.map fun v => v.category).sum ≤ 8) (hrm : mRm rm R maxL' cells slots) (hdg : decode cc pc = .ok (.invokestatic index, 3))
    (kx : ∀ (E : String) (ce : Cell) (q9 : Addr) (M1 : Mem) (H1 : Heap) (locs1 : List Loc), mh K M1 H1 → va_S (mFA K) s.heap H1 locs1 → QX E M1 → H1[q9]? = some ce → ce.vm = .none → s.vm.findClass E = some ce.cls → vx_W p l e R s m args below meth c H1 locs1 (cells + 1) (slots + 6) Qf (F0 m pc ls rest) q9)
    (kk : ∀ (r : Int32) (M1 : Mem) (H1 : Heap) (locs1 : List Loc), mh K M1 H1 → va_S (mFA K) s.heap H1 locs1 → k r M1 → W p l e R s m args below meth c H1 locs1 cells slots Qf (F0 m (pc + 3) ls (.int r :: rest))) : W p l e R s m args below meth c H locs cells slots Qf (F0 m pc ls st0) := by
  have hts := X.1.2.2.2.2
  exact rx_call (vy_runS X.1 (hct M (vI k) QX hP) ⟨hml.1.cb X hrm, hts _ hml.2⟩ ⟨mPre_blind, fun U hU hW9 => mPre_at X.2.1 hS hM hU hW9⟩ rfl hn hsize hst (lv_room hW) hdg hrm.2) hS kx (fun v M1 H1 locs1 hM1 hS1 hq => by
    obtain ⟨r, rfl, h⟩ := vI_of hq
    exact kk r M1 H1 locs1 hM1 hS1 h)
theorem r_callVl (X : Cx K p l s m args c cc nL own) (hM : mh K M H) (hS : va_S (mFA K) s.heap H locs) {F : (Int64 → Mem → Prop) → Mem → Prop} (hct : mPl K l y cc' maxL' ret' rm (.ref b :: As) F) {k : Int64 → Mem → Prop} (hP : mRecv b ci (F k) M) (hml : mMV own index y cc' maxL' ret' n) (hc : vwCl[ci]? = some (y.cls, T, N)) (hst : st0 = As.reverse ++ .ref b :: rest) (hn : As.length = n) (hsize : ls.size = nL) (hW : (rest.map fun v => v.category).sum ≤ 8) (hrm : mRm rm R maxL' cells slots) (hdg : decode cc pc = .ok (.invokevirtual index, 3))
    (kk : ∀ (r : Int64) (M1 : Mem) (H1 : Heap) (locs1 : List Loc), mh K M1 H1 → va_S (mFA K) s.heap H1 locs1 → k r M1 → W p l e R s m args below meth c H1 locs1 (cells + rm.cells) (slots + rm.slots) Qf (F0 m (pc + 3) ls (.long r :: rest))) : W p l e R s m args below meth c H locs cells slots Qf (F0 m pc ls st0) := by
  have hts := X.1.2.2.2.2
  exact r_call (va_runV X.1 (hct M (vL k) hP.2) ⟨hml.1.cb X hrm, hts _ hml.2.1, hts _ hml.2.2⟩ ⟨mPre_blind, mRecv_at X.2.1 hM hc hP.1, fun U hU hW9 => mPre_at X.2.1 hS hM hU hW9⟩ rfl hn hsize hst (lv_room hW) hdg hrm.2) hS (fun v M1 H1 locs1 hM1 hS1 hq => by
    obtain ⟨r, rfl, h⟩ := vL_of hq
    exact kk r M1 H1 locs1 hM1 hS1 h)
theorem r_callSl (X : Cx K p l s m args c cc nL own) (hM : mh K M H) (hS : va_S (mFA K) s.heap H locs) {F : (Int64 → Mem → Prop) → Mem → Prop} (hct : mPl K l y cc' maxL' ret' rm As F) {k : Int64 → Mem → Prop} (hP : F k M) (hml : mMS own index y cc' maxL' ret' n) (hst : st0 = As.reverse ++ rest) (hn : As.length = n) (hsize : ls.size = nL) (hW : (rest.map fun v => v.category).sum ≤ 8) (hrm : mRm rm R maxL' cells slots) (hdg : decode cc pc = .ok (.invokestatic index, 3))
    (kk : ∀ (r : Int64) (M1 : Mem) (H1 : Heap) (locs1 : List Loc), mh K M1 H1 → va_S (mFA K) s.heap H1 locs1 → k r M1 → W p l e R s m args below meth c H1 locs1 (cells + rm.cells) (slots + rm.slots) Qf (F0 m (pc + 3) ls (.long r :: rest))) : W p l e R s m args below meth c H locs cells slots Qf (F0 m pc ls st0) := by
  have hts := X.1.2.2.2.2
  exact r_call (va_runS X.1 (hct M (vL k) hP) ⟨hml.1.cb X hrm, hts _ hml.2⟩ ⟨mPre_blind, fun U hU hW9 => mPre_at X.2.1 hS hM hU hW9⟩ rfl hn hsize hst (lv_room hW) hdg hrm.2) hS (fun v M1 H1 locs1 hM1 hS1 hq => by
    obtain ⟨r, rfl, h⟩ := vL_of hq
    exact kk r M1 H1 locs1 hM1 hS1 h)
theorem rx_callVl (X : Cx K p l s m args c cc nL own) (hM : mh K M H) (hS : va_S (mFA K) s.heap H locs) {F : (Int64 → Mem → Prop) → (String → Mem → Prop) → Mem → Prop} (hct : mXPl K l y cc' maxL' ret' rm (.ref b :: As) F) {k : Int64 → Mem → Prop} {QX : String → Mem → Prop} (hP : mRecv b ci (F k QX) M) (hml : mMV own index y cc' maxL' ret' n) (hc : vwCl[ci]? = some (y.cls, T, N)) (hst : st0 = As.reverse ++ .ref b :: rest) (hn : As.length = n) (hsize : ls.size = nL) (hW : (rest.map fun v => v.category).sum ≤ 8) (hrm : mRm rm R maxL' cells slots) (hdg : decode cc pc = .ok (.invokevirtual index, 3))
    (kx : ∀ (E : String) (ce : Cell) (q9 : Addr) (M1 : Mem) (H1 : Heap) (locs1 : List Loc), mh K M1 H1 → va_S (mFA K) s.heap H1 locs1 → QX E M1 → H1[q9]? = some ce → ce.vm = .none → s.vm.findClass E = some ce.cls → vx_W p l e R s m args below meth c H1 locs1 (cells + 1) (slots + 6) Qf (F0 m pc ls rest) q9)
    (kk : ∀ (r : Int64) (M1 : Mem) (H1 : Heap) (locs1 : List Loc), mh K M1 H1 → va_S (mFA K) s.heap H1 locs1 → k r M1 → W p l e R s m args below meth c H1 locs1 cells slots Qf (F0 m (pc + 3) ls (.long r :: rest))) : W p l e R s m args below meth c H locs cells slots Qf (F0 m pc ls st0) := by
  have hts := X.1.2.2.2.2
  exact rx_call (vy_runV X.1 (hct M (vL k) QX hP.2) ⟨hml.1.cb X hrm, hts _ hml.2.1, hts _ hml.2.2⟩ ⟨mPre_blind, mRecv_at X.2.1 hM hc hP.1, fun U hU hW9 => mPre_at X.2.1 hS hM hU hW9⟩ rfl hn hsize hst (lv_room hW) hdg hrm.2) hS kx (fun v M1 H1 locs1 hM1 hS1 hq => by
    obtain ⟨r, rfl, h⟩ := vL_of hq
    exact kk r M1 H1 locs1 hM1 hS1 h)
theorem rx_callSl (X : Cx K p l s m args c cc nL own) (hM : mh K M H) (hS : va_S (mFA K) s.heap H locs) {F : (Int64 → Mem → Prop) → (String → Mem → Prop) → Mem → Prop} (hct : mXPl K l y cc' maxL' ret' rm As F) {k : Int64 → Mem → Prop} {QX : String → Mem → Prop} (hP : F k QX M) (hml : mMS own index y cc' maxL' ret' n) (hst : st0 = As.reverse ++ rest) (hn : As.length = n) (hsize : ls.size = nL) (hW : (rest.map fun v => v.category).sum ≤ 8) (hrm : mRm rm R maxL' cells slots) (hdg : decode cc pc = .ok (.invokestatic index, 3))
    (kx : ∀ (E : String) (ce : Cell) (q9 : Addr) (M1 : Mem) (H1 : Heap) (locs1 : List Loc), mh K M1 H1 → va_S (mFA K) s.heap H1 locs1 → QX E M1 → H1[q9]? = some ce → ce.vm = .none → s.vm.findClass E = some ce.cls → vx_W p l e R s m args below meth c H1 locs1 (cells + 1) (slots + 6) Qf (F0 m pc ls rest) q9)
    (kk : ∀ (r : Int64) (M1 : Mem) (H1 : Heap) (locs1 : List Loc), mh K M1 H1 → va_S (mFA K) s.heap H1 locs1 → k r M1 → W p l e R s m args below meth c H1 locs1 cells slots Qf (F0 m (pc + 3) ls (.long r :: rest))) : W p l e R s m args below meth c H locs cells slots Qf (F0 m pc ls st0) := by
  have hts := X.1.2.2.2.2
  exact rx_call (vy_runS X.1 (hct M (vL k) QX hP) ⟨hml.1.cb X hrm, hts _ hml.2⟩ ⟨mPre_blind, fun U hU hW9 => mPre_at X.2.1 hS hM hU hW9⟩ rfl hn hsize hst (lv_room hW) hdg hrm.2) hS kx (fun v M1 H1 locs1 hM1 hS1 hq => by
    obtain ⟨r, rfl, h⟩ := vL_of hq
    exact kk r M1 H1 locs1 hM1 hS1 h)
theorem r_callVf (X : Cx K p l s m args c cc nL own) (hM : mh K M H) (hS : va_S (mFA K) s.heap H locs) {F : (UInt32 → Mem → Prop) → Mem → Prop} (hct : mPf K l y cc' maxL' ret' rm (.ref b :: As) F) {k : UInt32 → Mem → Prop} (hP : mRecv b ci (F k) M) (hml : mMV own index y cc' maxL' ret' n) (hc : vwCl[ci]? = some (y.cls, T, N)) (hst : st0 = As.reverse ++ .ref b :: rest) (hn : As.length = n) (hsize : ls.size = nL) (hW : (rest.map fun v => v.category).sum ≤ 8) (hrm : mRm rm R maxL' cells slots) (hdg : decode cc pc = .ok (.invokevirtual index, 3))
    (kk : ∀ (r : UInt32) (M1 : Mem) (H1 : Heap) (locs1 : List Loc), mh K M1 H1 → va_S (mFA K) s.heap H1 locs1 → k r M1 → W p l e R s m args below meth c H1 locs1 (cells + rm.cells) (slots + rm.slots) Qf (F0 m (pc + 3) ls (.float r :: rest))) : W p l e R s m args below meth c H locs cells slots Qf (F0 m pc ls st0) := by
  have hts := X.1.2.2.2.2
  exact r_call (va_runV X.1 (hct M (vF k) hP.2) ⟨hml.1.cb X hrm, hts _ hml.2.1, hts _ hml.2.2⟩ ⟨mPre_blind, mRecv_at X.2.1 hM hc hP.1, fun U hU hW9 => mPre_at X.2.1 hS hM hU hW9⟩ rfl hn hsize hst (lv_room hW) hdg hrm.2) hS (fun v M1 H1 locs1 hM1 hS1 hq => by
    obtain ⟨r, rfl, h⟩ := vF_of hq
    exact kk r M1 H1 locs1 hM1 hS1 h)
theorem r_callSf (X : Cx K p l s m args c cc nL own) (hM : mh K M H) (hS : va_S (mFA K) s.heap H locs) {F : (UInt32 → Mem → Prop) → Mem → Prop} (hct : mPf K l y cc' maxL' ret' rm As F) {k : UInt32 → Mem → Prop} (hP : F k M) (hml : mMS own index y cc' maxL' ret' n) (hst : st0 = As.reverse ++ rest) (hn : As.length = n) (hsize : ls.size = nL) (hW : (rest.map fun v => v.category).sum ≤ 8) (hrm : mRm rm R maxL' cells slots) (hdg : decode cc pc = .ok (.invokestatic index, 3))
    (kk : ∀ (r : UInt32) (M1 : Mem) (H1 : Heap) (locs1 : List Loc), mh K M1 H1 → va_S (mFA K) s.heap H1 locs1 → k r M1 → W p l e R s m args below meth c H1 locs1 (cells + rm.cells) (slots + rm.slots) Qf (F0 m (pc + 3) ls (.float r :: rest))) : W p l e R s m args below meth c H locs cells slots Qf (F0 m pc ls st0) := by
  have hts := X.1.2.2.2.2
  exact r_call (va_runS X.1 (hct M (vF k) hP) ⟨hml.1.cb X hrm, hts _ hml.2⟩ ⟨mPre_blind, fun U hU hW9 => mPre_at X.2.1 hS hM hU hW9⟩ rfl hn hsize hst (lv_room hW) hdg hrm.2) hS (fun v M1 H1 locs1 hM1 hS1 hq => by
    obtain ⟨r, rfl, h⟩ := vF_of hq
    exact kk r M1 H1 locs1 hM1 hS1 h)
theorem rx_callVf (X : Cx K p l s m args c cc nL own) (hM : mh K M H) (hS : va_S (mFA K) s.heap H locs) {F : (UInt32 → Mem → Prop) → (String → Mem → Prop) → Mem → Prop} (hct : mXPf K l y cc' maxL' ret' rm (.ref b :: As) F) {k : UInt32 → Mem → Prop} {QX : String → Mem → Prop} (hP : mRecv b ci (F k QX) M) (hml : mMV own index y cc' maxL' ret' n) (hc : vwCl[ci]? = some (y.cls, T, N)) (hst : st0 = As.reverse ++ .ref b :: rest) (hn : As.length = n) (hsize : ls.size = nL) (hW : (rest.map fun v => v.category).sum ≤ 8) (hrm : mRm rm R maxL' cells slots) (hdg : decode cc pc = .ok (.invokevirtual index, 3))
    (kx : ∀ (E : String) (ce : Cell) (q9 : Addr) (M1 : Mem) (H1 : Heap) (locs1 : List Loc), mh K M1 H1 → va_S (mFA K) s.heap H1 locs1 → QX E M1 → H1[q9]? = some ce → ce.vm = .none → s.vm.findClass E = some ce.cls → vx_W p l e R s m args below meth c H1 locs1 (cells + 1) (slots + 6) Qf (F0 m pc ls rest) q9)
    (kk : ∀ (r : UInt32) (M1 : Mem) (H1 : Heap) (locs1 : List Loc), mh K M1 H1 → va_S (mFA K) s.heap H1 locs1 → k r M1 → W p l e R s m args below meth c H1 locs1 cells slots Qf (F0 m (pc + 3) ls (.float r :: rest))) : W p l e R s m args below meth c H locs cells slots Qf (F0 m pc ls st0) := by
  have hts := X.1.2.2.2.2
  exact rx_call (vy_runV X.1 (hct M (vF k) QX hP.2) ⟨hml.1.cb X hrm, hts _ hml.2.1, hts _ hml.2.2⟩ ⟨mPre_blind, mRecv_at X.2.1 hM hc hP.1, fun U hU hW9 => mPre_at X.2.1 hS hM hU hW9⟩ rfl hn hsize hst (lv_room hW) hdg hrm.2) hS kx (fun v M1 H1 locs1 hM1 hS1 hq => by
    obtain ⟨r, rfl, h⟩ := vF_of hq
    exact kk r M1 H1 locs1 hM1 hS1 h)
theorem rx_callSf (X : Cx K p l s m args c cc nL own) (hM : mh K M H) (hS : va_S (mFA K) s.heap H locs) {F : (UInt32 → Mem → Prop) → (String → Mem → Prop) → Mem → Prop} (hct : mXPf K l y cc' maxL' ret' rm As F) {k : UInt32 → Mem → Prop} {QX : String → Mem → Prop} (hP : F k QX M) (hml : mMS own index y cc' maxL' ret' n) (hst : st0 = As.reverse ++ rest) (hn : As.length = n) (hsize : ls.size = nL) (hW : (rest.map fun v => v.category).sum ≤ 8) (hrm : mRm rm R maxL' cells slots) (hdg : decode cc pc = .ok (.invokestatic index, 3))
    (kx : ∀ (E : String) (ce : Cell) (q9 : Addr) (M1 : Mem) (H1 : Heap) (locs1 : List Loc), mh K M1 H1 → va_S (mFA K) s.heap H1 locs1 → QX E M1 → H1[q9]? = some ce → ce.vm = .none → s.vm.findClass E = some ce.cls → vx_W p l e R s m args below meth c H1 locs1 (cells + 1) (slots + 6) Qf (F0 m pc ls rest) q9)
    (kk : ∀ (r : UInt32) (M1 : Mem) (H1 : Heap) (locs1 : List Loc), mh K M1 H1 → va_S (mFA K) s.heap H1 locs1 → k r M1 → W p l e R s m args below meth c H1 locs1 cells slots Qf (F0 m (pc + 3) ls (.float r :: rest))) : W p l e R s m args below meth c H locs cells slots Qf (F0 m pc ls st0) := by
  have hts := X.1.2.2.2.2
  exact rx_call (vy_runS X.1 (hct M (vF k) QX hP) ⟨hml.1.cb X hrm, hts _ hml.2⟩ ⟨mPre_blind, fun U hU hW9 => mPre_at X.2.1 hS hM hU hW9⟩ rfl hn hsize hst (lv_room hW) hdg hrm.2) hS kx (fun v M1 H1 locs1 hM1 hS1 hq => by
    obtain ⟨r, rfl, h⟩ := vF_of hq
    exact kk r M1 H1 locs1 hM1 hS1 h)
theorem r_callVd (X : Cx K p l s m args c cc nL own) (hM : mh K M H) (hS : va_S (mFA K) s.heap H locs) {F : (UInt64 → Mem → Prop) → Mem → Prop} (hct : mPd K l y cc' maxL' ret' rm (.ref b :: As) F) {k : UInt64 → Mem → Prop} (hP : mRecv b ci (F k) M) (hml : mMV own index y cc' maxL' ret' n) (hc : vwCl[ci]? = some (y.cls, T, N)) (hst : st0 = As.reverse ++ .ref b :: rest) (hn : As.length = n) (hsize : ls.size = nL) (hW : (rest.map fun v => v.category).sum ≤ 8) (hrm : mRm rm R maxL' cells slots) (hdg : decode cc pc = .ok (.invokevirtual index, 3))
    (kk : ∀ (r : UInt64) (M1 : Mem) (H1 : Heap) (locs1 : List Loc), mh K M1 H1 → va_S (mFA K) s.heap H1 locs1 → k r M1 → W p l e R s m args below meth c H1 locs1 (cells + rm.cells) (slots + rm.slots) Qf (F0 m (pc + 3) ls (.double r :: rest))) : W p l e R s m args below meth c H locs cells slots Qf (F0 m pc ls st0) := by
  have hts := X.1.2.2.2.2
  exact r_call (va_runV X.1 (hct M (vD k) hP.2) ⟨hml.1.cb X hrm, hts _ hml.2.1, hts _ hml.2.2⟩ ⟨mPre_blind, mRecv_at X.2.1 hM hc hP.1, fun U hU hW9 => mPre_at X.2.1 hS hM hU hW9⟩ rfl hn hsize hst (lv_room hW) hdg hrm.2) hS (fun v M1 H1 locs1 hM1 hS1 hq => by
    obtain ⟨r, rfl, h⟩ := vD_of hq
    exact kk r M1 H1 locs1 hM1 hS1 h)
theorem r_callSd (X : Cx K p l s m args c cc nL own) (hM : mh K M H) (hS : va_S (mFA K) s.heap H locs) {F : (UInt64 → Mem → Prop) → Mem → Prop} (hct : mPd K l y cc' maxL' ret' rm As F) {k : UInt64 → Mem → Prop} (hP : F k M) (hml : mMS own index y cc' maxL' ret' n) (hst : st0 = As.reverse ++ rest) (hn : As.length = n) (hsize : ls.size = nL) (hW : (rest.map fun v => v.category).sum ≤ 8) (hrm : mRm rm R maxL' cells slots) (hdg : decode cc pc = .ok (.invokestatic index, 3))
    (kk : ∀ (r : UInt64) (M1 : Mem) (H1 : Heap) (locs1 : List Loc), mh K M1 H1 → va_S (mFA K) s.heap H1 locs1 → k r M1 → W p l e R s m args below meth c H1 locs1 (cells + rm.cells) (slots + rm.slots) Qf (F0 m (pc + 3) ls (.double r :: rest))) : W p l e R s m args below meth c H locs cells slots Qf (F0 m pc ls st0) := by
  have hts := X.1.2.2.2.2
  exact r_call (va_runS X.1 (hct M (vD k) hP) ⟨hml.1.cb X hrm, hts _ hml.2⟩ ⟨mPre_blind, fun U hU hW9 => mPre_at X.2.1 hS hM hU hW9⟩ rfl hn hsize hst (lv_room hW) hdg hrm.2) hS (fun v M1 H1 locs1 hM1 hS1 hq => by
    obtain ⟨r, rfl, h⟩ := vD_of hq
    exact kk r M1 H1 locs1 hM1 hS1 h)
theorem rx_callVd (X : Cx K p l s m args c cc nL own) (hM : mh K M H) (hS : va_S (mFA K) s.heap H locs) {F : (UInt64 → Mem → Prop) → (String → Mem → Prop) → Mem → Prop} (hct : mXPd K l y cc' maxL' ret' rm (.ref b :: As) F) {k : UInt64 → Mem → Prop} {QX : String → Mem → Prop} (hP : mRecv b ci (F k QX) M) (hml : mMV own index y cc' maxL' ret' n) (hc : vwCl[ci]? = some (y.cls, T, N)) (hst : st0 = As.reverse ++ .ref b :: rest) (hn : As.length = n) (hsize : ls.size = nL) (hW : (rest.map fun v => v.category).sum ≤ 8) (hrm : mRm rm R maxL' cells slots) (hdg : decode cc pc = .ok (.invokevirtual index, 3))
    (kx : ∀ (E : String) (ce : Cell) (q9 : Addr) (M1 : Mem) (H1 : Heap) (locs1 : List Loc), mh K M1 H1 → va_S (mFA K) s.heap H1 locs1 → QX E M1 → H1[q9]? = some ce → ce.vm = .none → s.vm.findClass E = some ce.cls → vx_W p l e R s m args below meth c H1 locs1 (cells + 1) (slots + 6) Qf (F0 m pc ls rest) q9)
    (kk : ∀ (r : UInt64) (M1 : Mem) (H1 : Heap) (locs1 : List Loc), mh K M1 H1 → va_S (mFA K) s.heap H1 locs1 → k r M1 → W p l e R s m args below meth c H1 locs1 cells slots Qf (F0 m (pc + 3) ls (.double r :: rest))) : W p l e R s m args below meth c H locs cells slots Qf (F0 m pc ls st0) := by
  have hts := X.1.2.2.2.2
  exact rx_call (vy_runV X.1 (hct M (vD k) QX hP.2) ⟨hml.1.cb X hrm, hts _ hml.2.1, hts _ hml.2.2⟩ ⟨mPre_blind, mRecv_at X.2.1 hM hc hP.1, fun U hU hW9 => mPre_at X.2.1 hS hM hU hW9⟩ rfl hn hsize hst (lv_room hW) hdg hrm.2) hS kx (fun v M1 H1 locs1 hM1 hS1 hq => by
    obtain ⟨r, rfl, h⟩ := vD_of hq
    exact kk r M1 H1 locs1 hM1 hS1 h)
theorem rx_callSd (X : Cx K p l s m args c cc nL own) (hM : mh K M H) (hS : va_S (mFA K) s.heap H locs) {F : (UInt64 → Mem → Prop) → (String → Mem → Prop) → Mem → Prop} (hct : mXPd K l y cc' maxL' ret' rm As F) {k : UInt64 → Mem → Prop} {QX : String → Mem → Prop} (hP : F k QX M) (hml : mMS own index y cc' maxL' ret' n) (hst : st0 = As.reverse ++ rest) (hn : As.length = n) (hsize : ls.size = nL) (hW : (rest.map fun v => v.category).sum ≤ 8) (hrm : mRm rm R maxL' cells slots) (hdg : decode cc pc = .ok (.invokestatic index, 3))
    (kx : ∀ (E : String) (ce : Cell) (q9 : Addr) (M1 : Mem) (H1 : Heap) (locs1 : List Loc), mh K M1 H1 → va_S (mFA K) s.heap H1 locs1 → QX E M1 → H1[q9]? = some ce → ce.vm = .none → s.vm.findClass E = some ce.cls → vx_W p l e R s m args below meth c H1 locs1 (cells + 1) (slots + 6) Qf (F0 m pc ls rest) q9)
    (kk : ∀ (r : UInt64) (M1 : Mem) (H1 : Heap) (locs1 : List Loc), mh K M1 H1 → va_S (mFA K) s.heap H1 locs1 → k r M1 → W p l e R s m args below meth c H1 locs1 cells slots Qf (F0 m (pc + 3) ls (.double r :: rest))) : W p l e R s m args below meth c H locs cells slots Qf (F0 m pc ls st0) := by
  have hts := X.1.2.2.2.2
  exact rx_call (vy_runS X.1 (hct M (vD k) QX hP) ⟨hml.1.cb X hrm, hts _ hml.2⟩ ⟨mPre_blind, fun U hU hW9 => mPre_at X.2.1 hS hM hU hW9⟩ rfl hn hsize hst (lv_room hW) hdg hrm.2) hS kx (fun v M1 H1 locs1 hM1 hS1 hq => by
    obtain ⟨r, rfl, h⟩ := vD_of hq
    exact kk r M1 H1 locs1 hM1 hS1 h)
theorem r_callVr (X : Cx K p l s m args c cc nL own) (hM : mh K M H) (hS : va_S (mFA K) s.heap H locs) {F : (Nat → Mem → Prop) → Mem → Prop} (hct : mPr K l y cc' maxL' ret' rm (.ref b :: As) F) {k : Nat → Mem → Prop} (hP : mRecv b ci (F k) M) (hml : mMV own index y cc' maxL' ret' n) (hc : vwCl[ci]? = some (y.cls, T, N)) (hst : st0 = As.reverse ++ .ref b :: rest) (hn : As.length = n) (hsize : ls.size = nL) (hW : (rest.map fun v => v.category).sum ≤ 8) (hrm : mRm rm R maxL' cells slots) (hdg : decode cc pc = .ok (.invokevirtual index, 3))
    (kk : ∀ (r : Nat) (M1 : Mem) (H1 : Heap) (locs1 : List Loc), mh K M1 H1 → va_S (mFA K) s.heap H1 locs1 → k r M1 → W p l e R s m args below meth c H1 locs1 (cells + rm.cells) (slots + rm.slots) Qf (F0 m (pc + 3) ls (.ref r :: rest))) : W p l e R s m args below meth c H locs cells slots Qf (F0 m pc ls st0) := by
  have hts := X.1.2.2.2.2
  exact r_call (va_runV X.1 (hct M (vR k) hP.2) ⟨hml.1.cb X hrm, hts _ hml.2.1, hts _ hml.2.2⟩ ⟨mPre_blind, mRecv_at X.2.1 hM hc hP.1, fun U hU hW9 => mPre_at X.2.1 hS hM hU hW9⟩ rfl hn hsize hst (lv_room hW) hdg hrm.2) hS (fun v M1 H1 locs1 hM1 hS1 hq => by
    obtain ⟨r, rfl, h⟩ := vR_of hq
    exact kk r M1 H1 locs1 hM1 hS1 h)
theorem r_callSr (X : Cx K p l s m args c cc nL own) (hM : mh K M H) (hS : va_S (mFA K) s.heap H locs) {F : (Nat → Mem → Prop) → Mem → Prop} (hct : mPr K l y cc' maxL' ret' rm As F) {k : Nat → Mem → Prop} (hP : F k M) (hml : mMS own index y cc' maxL' ret' n) (hst : st0 = As.reverse ++ rest) (hn : As.length = n) (hsize : ls.size = nL) (hW : (rest.map fun v => v.category).sum ≤ 8) (hrm : mRm rm R maxL' cells slots) (hdg : decode cc pc = .ok (.invokestatic index, 3))
    (kk : ∀ (r : Nat) (M1 : Mem) (H1 : Heap) (locs1 : List Loc), mh K M1 H1 → va_S (mFA K) s.heap H1 locs1 → k r M1 → W p l e R s m args below meth c H1 locs1 (cells + rm.cells) (slots + rm.slots) Qf (F0 m (pc + 3) ls (.ref r :: rest))) : W p l e R s m args below meth c H locs cells slots Qf (F0 m pc ls st0) := by
  have hts := X.1.2.2.2.2
  exact r_call (va_runS X.1 (hct M (vR k) hP) ⟨hml.1.cb X hrm, hts _ hml.2⟩ ⟨mPre_blind, fun U hU hW9 => mPre_at X.2.1 hS hM hU hW9⟩ rfl hn hsize hst (lv_room hW) hdg hrm.2) hS (fun v M1 H1 locs1 hM1 hS1 hq => by
    obtain ⟨r, rfl, h⟩ := vR_of hq
    exact kk r M1 H1 locs1 hM1 hS1 h)
theorem rx_callVr (X : Cx K p l s m args c cc nL own) (hM : mh K M H) (hS : va_S (mFA K) s.heap H locs) {F : (Nat → Mem → Prop) → (String → Mem → Prop) → Mem → Prop} (hct : mXPr K l y cc' maxL' ret' rm (.ref b :: As) F) {k : Nat → Mem → Prop} {QX : String → Mem → Prop} (hP : mRecv b ci (F k QX) M) (hml : mMV own index y cc' maxL' ret' n) (hc : vwCl[ci]? = some (y.cls, T, N)) (hst : st0 = As.reverse ++ .ref b :: rest) (hn : As.length = n) (hsize : ls.size = nL) (hW : (rest.map fun v => v.category).sum ≤ 8) (hrm : mRm rm R maxL' cells slots) (hdg : decode cc pc = .ok (.invokevirtual index, 3))
    (kx : ∀ (E : String) (ce : Cell) (q9 : Addr) (M1 : Mem) (H1 : Heap) (locs1 : List Loc), mh K M1 H1 → va_S (mFA K) s.heap H1 locs1 → QX E M1 → H1[q9]? = some ce → ce.vm = .none → s.vm.findClass E = some ce.cls → vx_W p l e R s m args below meth c H1 locs1 (cells + 1) (slots + 6) Qf (F0 m pc ls rest) q9)
    (kk : ∀ (r : Nat) (M1 : Mem) (H1 : Heap) (locs1 : List Loc), mh K M1 H1 → va_S (mFA K) s.heap H1 locs1 → k r M1 → W p l e R s m args below meth c H1 locs1 cells slots Qf (F0 m (pc + 3) ls (.ref r :: rest))) : W p l e R s m args below meth c H locs cells slots Qf (F0 m pc ls st0) := by
  have hts := X.1.2.2.2.2
  exact rx_call (vy_runV X.1 (hct M (vR k) QX hP.2) ⟨hml.1.cb X hrm, hts _ hml.2.1, hts _ hml.2.2⟩ ⟨mPre_blind, mRecv_at X.2.1 hM hc hP.1, fun U hU hW9 => mPre_at X.2.1 hS hM hU hW9⟩ rfl hn hsize hst (lv_room hW) hdg hrm.2) hS kx (fun v M1 H1 locs1 hM1 hS1 hq => by
    obtain ⟨r, rfl, h⟩ := vR_of hq
    exact kk r M1 H1 locs1 hM1 hS1 h)
theorem rx_callSr (X : Cx K p l s m args c cc nL own) (hM : mh K M H) (hS : va_S (mFA K) s.heap H locs) {F : (Nat → Mem → Prop) → (String → Mem → Prop) → Mem → Prop} (hct : mXPr K l y cc' maxL' ret' rm As F) {k : Nat → Mem → Prop} {QX : String → Mem → Prop} (hP : F k QX M) (hml : mMS own index y cc' maxL' ret' n) (hst : st0 = As.reverse ++ rest) (hn : As.length = n) (hsize : ls.size = nL) (hW : (rest.map fun v => v.category).sum ≤ 8) (hrm : mRm rm R maxL' cells slots) (hdg : decode cc pc = .ok (.invokestatic index, 3))
    (kx : ∀ (E : String) (ce : Cell) (q9 : Addr) (M1 : Mem) (H1 : Heap) (locs1 : List Loc), mh K M1 H1 → va_S (mFA K) s.heap H1 locs1 → QX E M1 → H1[q9]? = some ce → ce.vm = .none → s.vm.findClass E = some ce.cls → vx_W p l e R s m args below meth c H1 locs1 (cells + 1) (slots + 6) Qf (F0 m pc ls rest) q9)
    (kk : ∀ (r : Nat) (M1 : Mem) (H1 : Heap) (locs1 : List Loc), mh K M1 H1 → va_S (mFA K) s.heap H1 locs1 → k r M1 → W p l e R s m args below meth c H1 locs1 cells slots Qf (F0 m (pc + 3) ls (.ref r :: rest))) : W p l e R s m args below meth c H locs cells slots Qf (F0 m pc ls st0) := by
  have hts := X.1.2.2.2.2
  exact rx_call (vy_runS X.1 (hct M (vR k) QX hP) ⟨hml.1.cb X hrm, hts _ hml.2⟩ ⟨mPre_blind, fun U hU hW9 => mPre_at X.2.1 hS hM hU hW9⟩ rfl hn hsize hst (lv_room hW) hdg hrm.2) hS kx (fun v M1 H1 locs1 hM1 hS1 hq => by
    obtain ⟨r, rfl, h⟩ := vR_of hq
    exact kk r M1 H1 locs1 hM1 hS1 h)
theorem r_callVv (X : Cx K p l s m args c cc nL own) (hM : mh K M H) (hS : va_S (mFA K) s.heap H locs) {F : (Mem → Prop) → Mem → Prop} (hct : mPv K l y cc' maxL' ret' rm (.ref b :: As) F) {k : Mem → Prop} (hP : mRecv b ci (F k) M) (hml : mMV own index y cc' maxL' ret' n) (hc : vwCl[ci]? = some (y.cls, T, N)) (hst : st0 = As.reverse ++ .ref b :: rest) (hn : As.length = n) (hsize : ls.size = nL) (hW : (rest.map fun v => v.category).sum ≤ 8) (hrm : mRm rm R maxL' cells slots) (hdg : decode cc pc = .ok (.invokevirtual index, 3))
    (kk : ∀ (M1 : Mem) (H1 : Heap) (locs1 : List Loc), mh K M1 H1 → va_S (mFA K) s.heap H1 locs1 → k M1 → W p l e R s m args below meth c H1 locs1 (cells + rm.cells) (slots + rm.slots) Qf (F0 m (pc + 3) ls rest)) : W p l e R s m args below meth c H locs cells slots Qf (F0 m pc ls st0) := by
  have hts := X.1.2.2.2.2
  exact r_call (va_runV X.1 (hct M (vV k) hP.2) ⟨hml.1.cb X hrm, hts _ hml.2.1, hts _ hml.2.2⟩ ⟨mPre_blind, mRecv_at X.2.1 hM hc hP.1, fun U hU hW9 => mPre_at X.2.1 hS hM hU hW9⟩ rfl hn hsize hst (lv_room hW) hdg hrm.2) hS (fun v M1 H1 locs1 hM1 hS1 hq => by
    obtain ⟨rfl, h⟩ := vV_of hq
    exact kk M1 H1 locs1 hM1 hS1 h)
theorem r_callSv (X : Cx K p l s m args c cc nL own) (hM : mh K M H) (hS : va_S (mFA K) s.heap H locs) {F : (Mem → Prop) → Mem → Prop} (hct : mPv K l y cc' maxL' ret' rm As F) {k : Mem → Prop} (hP : F k M) (hml : mMS own index y cc' maxL' ret' n) (hst : st0 = As.reverse ++ rest) (hn : As.length = n) (hsize : ls.size = nL) (hW : (rest.map fun v => v.category).sum ≤ 8) (hrm : mRm rm R maxL' cells slots) (hdg : decode cc pc = .ok (.invokestatic index, 3))
    (kk : ∀ (M1 : Mem) (H1 : Heap) (locs1 : List Loc), mh K M1 H1 → va_S (mFA K) s.heap H1 locs1 → k M1 → W p l e R s m args below meth c H1 locs1 (cells + rm.cells) (slots + rm.slots) Qf (F0 m (pc + 3) ls rest)) : W p l e R s m args below meth c H locs cells slots Qf (F0 m pc ls st0) := by
  have hts := X.1.2.2.2.2
  exact r_call (va_runS X.1 (hct M (vV k) hP) ⟨hml.1.cb X hrm, hts _ hml.2⟩ ⟨mPre_blind, fun U hU hW9 => mPre_at X.2.1 hS hM hU hW9⟩ rfl hn hsize hst (lv_room hW) hdg hrm.2) hS (fun v M1 H1 locs1 hM1 hS1 hq => by
    obtain ⟨rfl, h⟩ := vV_of hq
    exact kk M1 H1 locs1 hM1 hS1 h)
theorem rx_callVv (X : Cx K p l s m args c cc nL own) (hM : mh K M H) (hS : va_S (mFA K) s.heap H locs) {F : (Mem → Prop) → (String → Mem → Prop) → Mem → Prop} (hct : mXPv K l y cc' maxL' ret' rm (.ref b :: As) F) {k : Mem → Prop} {QX : String → Mem → Prop} (hP : mRecv b ci (F k QX) M) (hml : mMV own index y cc' maxL' ret' n) (hc : vwCl[ci]? = some (y.cls, T, N)) (hst : st0 = As.reverse ++ .ref b :: rest) (hn : As.length = n) (hsize : ls.size = nL) (hW : (rest.map fun v => v.category).sum ≤ 8) (hrm : mRm rm R maxL' cells slots) (hdg : decode cc pc = .ok (.invokevirtual index, 3))
    (kx : ∀ (E : String) (ce : Cell) (q9 : Addr) (M1 : Mem) (H1 : Heap) (locs1 : List Loc), mh K M1 H1 → va_S (mFA K) s.heap H1 locs1 → QX E M1 → H1[q9]? = some ce → ce.vm = .none → s.vm.findClass E = some ce.cls → vx_W p l e R s m args below meth c H1 locs1 (cells + 1) (slots + 6) Qf (F0 m pc ls rest) q9)
    (kk : ∀ (M1 : Mem) (H1 : Heap) (locs1 : List Loc), mh K M1 H1 → va_S (mFA K) s.heap H1 locs1 → k M1 → W p l e R s m args below meth c H1 locs1 cells slots Qf (F0 m (pc + 3) ls rest)) : W p l e R s m args below meth c H locs cells slots Qf (F0 m pc ls st0) := by
  have hts := X.1.2.2.2.2
  exact rx_call (vy_runV X.1 (hct M (vV k) QX hP.2) ⟨hml.1.cb X hrm, hts _ hml.2.1, hts _ hml.2.2⟩ ⟨mPre_blind, mRecv_at X.2.1 hM hc hP.1, fun U hU hW9 => mPre_at X.2.1 hS hM hU hW9⟩ rfl hn hsize hst (lv_room hW) hdg hrm.2) hS kx (fun v M1 H1 locs1 hM1 hS1 hq => by
    obtain ⟨rfl, h⟩ := vV_of hq
    exact kk M1 H1 locs1 hM1 hS1 h)
theorem rx_callSv (X : Cx K p l s m args c cc nL own) (hM : mh K M H) (hS : va_S (mFA K) s.heap H locs) {F : (Mem → Prop) → (String → Mem → Prop) → Mem → Prop} (hct : mXPv K l y cc' maxL' ret' rm As F) {k : Mem → Prop} {QX : String → Mem → Prop} (hP : F k QX M) (hml : mMS own index y cc' maxL' ret' n) (hst : st0 = As.reverse ++ rest) (hn : As.length = n) (hsize : ls.size = nL) (hW : (rest.map fun v => v.category).sum ≤ 8) (hrm : mRm rm R maxL' cells slots) (hdg : decode cc pc = .ok (.invokestatic index, 3))
    (kx : ∀ (E : String) (ce : Cell) (q9 : Addr) (M1 : Mem) (H1 : Heap) (locs1 : List Loc), mh K M1 H1 → va_S (mFA K) s.heap H1 locs1 → QX E M1 → H1[q9]? = some ce → ce.vm = .none → s.vm.findClass E = some ce.cls → vx_W p l e R s m args below meth c H1 locs1 (cells + 1) (slots + 6) Qf (F0 m pc ls rest) q9)
    (kk : ∀ (M1 : Mem) (H1 : Heap) (locs1 : List Loc), mh K M1 H1 → va_S (mFA K) s.heap H1 locs1 → k M1 → W p l e R s m args below meth c H1 locs1 cells slots Qf (F0 m (pc + 3) ls rest)) : W p l e R s m args below meth c H locs cells slots Qf (F0 m pc ls st0) := by
  have hts := X.1.2.2.2.2
  exact rx_call (vy_runS X.1 (hct M (vV k) QX hP) ⟨hml.1.cb X hrm, hts _ hml.2⟩ ⟨mPre_blind, fun U hU hW9 => mPre_at X.2.1 hS hM hU hW9⟩ rfl hn hsize hst (lv_room hW) hdg hrm.2) hS kx (fun v M1 H1 locs1 hM1 hS1 hq => by
    obtain ⟨rfl, h⟩ := vV_of hq
    exact kk M1 H1 locs1 hM1 hS1 h)
theorem r_callIv (X : Cx K p l s m args c cc nL own) (hM : mh K M H) (hS : va_S (mFA K) s.heap H locs) {F : (Mem → Prop) → Mem → Prop} (hct : mPv K l y cc' maxL' none rm (.ref b :: As) F) {k : Mem → Prop} (hP : F k M) (hml : mMI own index y cc' maxL' none n) (hst : st0 = As.reverse ++ .ref b :: rest) (hn : As.length = n) (hsize : ls.size = nL) (hW : (rest.map fun v => v.category).sum ≤ 8) (hrm : mRm rm R maxL' cells slots) (hdg : decode cc pc = .ok (.invokespecial index, 3))
    (kk : ∀ (M1 : Mem) (H1 : Heap) (locs1 : List Loc), mh K M1 H1 → va_S (mFA K) s.heap H1 locs1 → k M1 → W p l e R s m args below meth c H1 locs1 (cells + rm.cells) (slots + rm.slots) Qf (F0 m (pc + 3) ls rest)) : W p l e R s m args below meth c H locs cells slots Qf (F0 m pc ls st0) := by
  have hts := X.1.2.2.2.2
  exact r_call (va_runI X.1 (hct M (vV k) hP) ⟨hml.1.cb X hrm, hml.2.1, hts _ hml.2.2⟩ ⟨mPre_blind, fun U hU hW9 => mPre_at X.2.1 hS hM hU hW9⟩ rfl hn hsize hst (lv_room hW) hdg hrm.2) hS (fun v M1 H1 locs1 hM1 hS1 hq => by
    obtain ⟨rfl, h⟩ := vV_of hq
    exact kk M1 H1 locs1 hM1 hS1 h)
end MROWS2
end
section
/-! ===== nest mates, List, natives, statics, ends, throws ===== -/
def mStO (K : Cfg) (a : Nat) (i : Int32) (v : Nat) (k : Mem → Prop) : Mem → Prop := fun M => ∃ ci : Nat, (ci = 7 ∨ ci = 8 ∨ ci = 9) ∧ mStQ K 7 ci a i v k M
def mNo : Mem → Prop := fun _ => False
def mFuel : Nat := 4096
section MROWS3
variable {K : Cfg} {p : Program} {l : Launch} {e : Env} {R : Room} {s : State} {m : MethodId} {args : Array Value} {below : List Frame} {meth : Method} {c : Code} {H : Heap} {locs : List Loc} {cells slots : Nat} {Qf : State → Prop}
variable {cc : ByteArray} {nL : Nat} {own : String} {pc : Nat} {ls : Array Slot} {rest : List Value} {M : Mem} {a ci j index : Nat} {ref C : String} {T : u_T} {N : Nat}

theorem lv_ldcwf (hexec : p.tables.exec = Jvm.exec) (hb : c.code = cc) {v : UInt32} (hown : s.vm.findClass own = some m.cls) (hconst : (Jvm.Cond.constantFloat own index v).before args s = true) (hdg : decode cc pc = .ok (.ldc_w index, 3)) (k : W p l e R s m args below meth c H locs cells slots Qf (F0 m (pc + 3) ls (.float v :: rest))) : W p l e R s m args below meth c H locs cells slots Qf (F0 m pc ls rest) := by
  intro T hT X
  obtain ⟨t, a, b⟩ := k T hT X
  refine ⟨t, ?_, b⟩
  obtain ⟨k, cf, hk, hcf, hcp⟩ := Cond.constantFloat_spec hown hconst
  obtain ⟨k', hk', he⟩ := X.warmed.alike.2.2 _ _ hk
  jvm_step X.here [hexec, hb, hdg, ldc_w.wp_float (s := T) (f := F0 m pc ls rest) X.here.top hk' (by rw [he]; exact hcf) hcp]
  exact a
variable {y : MethodName} {cc' : ByteArray} {maxL' n : Nat} {ret' : Option FieldType} {rm : Room} {As : List Value} {b : Nat} {st0 : List Value}
theorem r_callVNf (X : Cx K p l s m args c cc nL own) (hM : mh K M H) (hS : va_S (mFA K) s.heap H locs) {F : (UInt32 → Mem → Prop) → Mem → Prop} (hct : mPf K l y cc' maxL' ret' rm (.ref b :: As) F) {k : UInt32 → Mem → Prop} (hP : mRecv b ci (F k) M) {host : String} (hnw : (own, index, y, host) ∈ mNwM) (hcd : Cond.code y cc' maxL' ret' ∈ mLA) (hin : Cond.initialized y.cls ∈ mLA) (hd : y.cls ≠ "java/lang/invoke/MethodHandle" ∧ y.cls ≠ "java/lang/invoke/VarHandle" ∧ (parseMethodDescriptor y.desc).map (fun d => d.parameters.length) = some n) (hi1 : Cond.instanceMethod y ∈ mLA) (hse : Cond.selects y.cls y y ∈ mLA) (hc : vwCl[ci]? = some (y.cls, T, N)) (hst : st0 = As.reverse ++ .ref b :: rest) (hn : As.length = n) (hsize : ls.size = nL) (hW : (rest.map fun v => v.category).sum ≤ 8) (hrm : mRm rm R maxL' cells slots) (hdg : decode cc pc = .ok (.invokevirtual index, 3))
    (kk : ∀ (r : UInt32) (M1 : Mem) (H1 : Heap) (locs1 : List Loc), mh K M1 H1 → va_S (mFA K) s.heap H1 locs1 → k r M1 → W p l e R s m args below meth c H1 locs1 (cells + rm.cells) (slots + rm.slots) Qf (F0 m (pc + 3) ls (.float r :: rest))) : W p l e R s m args below meth c H locs cells slots Qf (F0 m pc ls st0) := by
  have hts := X.1.2.2.2.2
  exact r_call (va_runVN X.1 (hct M (vF k) hP.2) ⟨va_cnB n hts (mWs_good hcd) rfl rfl rfl (X.2.1.2.2.1.1 _ hnw) (hts _ hin) hd hrm.1, hts _ hi1, hts _ hse⟩ ⟨mPre_blind, mRecv_at X.2.1 hM hc hP.1, fun U hU hW9 => mPre_at X.2.1 hS hM hU hW9⟩ rfl hn hsize hst (lv_room hW) hdg hrm.2) hS (fun v M1 H1 locs1 hM1 hS1 hq => by
    obtain ⟨r, rfl, h⟩ := vF_of hq
    exact kk r M1 H1 locs1 hM1 hS1 h)
theorem r_callINv (X : Cx K p l s m args c cc nL own) (hM : mh K M H) (hS : va_S (mFA K) s.heap H locs) {F : (Mem → Prop) → Mem → Prop} (hct : mPv K l y cc' maxL' none rm (.ref b :: As) F) {k : Mem → Prop} (hP : F k M) {host : String} (hnw : (own, index, y, host) ∈ mNwM) (hcd : Cond.code y cc' maxL' none ∈ mLA) (hin : Cond.initialized y.cls ∈ mLA) (hd : y.cls ≠ "java/lang/invoke/MethodHandle" ∧ y.cls ≠ "java/lang/invoke/VarHandle" ∧ (parseMethodDescriptor y.desc).map (fun d => d.parameters.length) = some n) (hnm : y.name = "<init>") (hi1 : Cond.instanceMethod y ∈ mLA) (hst : st0 = As.reverse ++ .ref b :: rest) (hn : As.length = n) (hsize : ls.size = nL) (hW : (rest.map fun v => v.category).sum ≤ 8) (hrm : mRm rm R maxL' cells slots) (hdg : decode cc pc = .ok (.invokespecial index, 3))
    (kk : ∀ (M1 : Mem) (H1 : Heap) (locs1 : List Loc), mh K M1 H1 → va_S (mFA K) s.heap H1 locs1 → k M1 → W p l e R s m args below meth c H1 locs1 (cells + rm.cells) (slots + rm.slots) Qf (F0 m (pc + 3) ls rest)) : W p l e R s m args below meth c H locs cells slots Qf (F0 m pc ls st0) := by
  have hts := X.1.2.2.2.2
  exact r_call (va_runIN X.1 (hct M (vV k) hP) ⟨va_cnB n hts (mWs_good hcd) rfl rfl rfl (X.2.1.2.2.1.1 _ hnw) (hts _ hin) hd hrm.1, hnm, hts _ hi1⟩ ⟨mPre_blind, fun U hU hW9 => mPre_at X.2.1 hS hM hU hW9⟩ rfl hn hsize hst (lv_room hW) hdg hrm.2) hS (fun v M1 H1 locs1 hM1 hS1 hq => by
    obtain ⟨rfl, h⟩ := vV_of hq
    exact kk M1 H1 locs1 hM1 hS1 h)
/-- List's methods, of an ArrayList -/
def mMF (own : String) (index : Nat) (x y : MethodName) (cc : ByteArray) (maxL : Nat) (ret : Option FieldType) (n : Nat) : Prop :=
  (x, y) ∈ mFwl ∧ Cond.methodLink own index x ∈ mLA ∧ Cond.selects RJx4a65c x y ∈ mLA ∧ Cond.instanceMethod y ∈ mLA ∧ Cond.initialized y.cls ∈ mLA ∧ Cond.code y cc maxL ret ∈ mLA ∧ (x.cls ≠ "java/lang/invoke/MethodHandle" ∧ x.cls ≠ "java/lang/invoke/VarHandle" ∧ (parseMethodDescriptor x.desc).map (fun d => d.parameters.length) = some n)
theorem mMF.cif {x : MethodName} (h : mMF own index x y cc' maxL' ret' n) (X : Cx K p l s m args c cc nL own) (hrm : mRm rm R maxL' cells slots) : va_CI R s args own RJx4a65c index x y cc' maxL' ret' (mWs y cc' maxL' ret') rm rm.cells rm.slots n := by
  have hts := X.1.2.2.2.2
  refine va_cwF n hts ?_ rfl rfl rfl (X.2.1.2.2.2.1.1 _ h.1) h.2.2.2.2.2.2 hrm.1
  intro w hw
  rcases List.mem_append.mp hw with hw | hw
  · simp only [List.mem_cons, List.not_mem_nil, or_false] at hw
    rcases hw with rfl | rfl | rfl | rfl
    · exact ⟨h.2.1, mLA_good h.2.1⟩
    · exact ⟨h.2.2.1, mLA_good h.2.2.1⟩
    · exact ⟨h.2.2.2.1, mLA_good h.2.2.2.1⟩
    · exact ⟨h.2.2.2.2.1, mLA_good h.2.2.2.2.1⟩
  · exact mWs_good h.2.2.2.2.2.1 w hw
theorem r_callFi (X : Cx K p l s m args c cc nL own) (hM : mh K M H) (hS : va_S (mFA K) s.heap H locs) {F : (Int32 → Mem → Prop) → Mem → Prop} (hct : mPi K l y cc' maxL' ret' rm (.ref b :: As) F) {k : Int32 → Mem → Prop} (hP : mRecv b 0 (F k) M) {x : MethodName} (hml : mMF own index x y cc' maxL' ret' n) (hst : st0 = As.reverse ++ .ref b :: rest) (hn : As.length = n) (hsize : ls.size = nL) (hW : (rest.map fun v => v.category).sum ≤ 8) (hrm : mRm rm R maxL' cells slots) {count : Nat} (hdg : decode cc pc = .ok (.invokeinterface index count, 5))
    (kk : ∀ (r : Int32) (M1 : Mem) (H1 : Heap) (locs1 : List Loc), mh K M1 H1 → va_S (mFA K) s.heap H1 locs1 → k r M1 → W p l e R s m args below meth c H1 locs1 (cells + rm.cells) (slots + rm.slots) Qf (F0 m (pc + 5) ls (.int r :: rest))) : W p l e R s m args below meth c H locs cells slots Qf (F0 m pc ls st0) := by
  have hcl := (X.2.1.2.1.1 0 _ rfl).2
  obtain ⟨fs, hb⟩ := hP.1
  exact r_call5 (va_runF hcl X.1 (hct M (vI k) hP.2) (hml.cif X hrm) ⟨mPre_blind, va_recv X.2.1.2.1 (va_P1 (hM b _ hb).2) (ci := 0) (q0 := 0) rfl rfl, fun U hU hW9 => mPre_at X.2.1 hS hM hU hW9⟩ rfl hn hsize hst (lv_room hW) hdg hrm.2) hS (fun v M1 H1 locs1 hM1 hS1 hq => by
    obtain ⟨r, rfl, h⟩ := vI_of hq
    exact kk r M1 H1 locs1 hM1 hS1 h)
theorem r_callFr (X : Cx K p l s m args c cc nL own) (hM : mh K M H) (hS : va_S (mFA K) s.heap H locs) {F : (Nat → Mem → Prop) → Mem → Prop} (hct : mPr K l y cc' maxL' ret' rm (.ref b :: As) F) {k : Nat → Mem → Prop} (hP : mRecv b 0 (F k) M) {x : MethodName} (hml : mMF own index x y cc' maxL' ret' n) (hst : st0 = As.reverse ++ .ref b :: rest) (hn : As.length = n) (hsize : ls.size = nL) (hW : (rest.map fun v => v.category).sum ≤ 8) (hrm : mRm rm R maxL' cells slots) {count : Nat} (hdg : decode cc pc = .ok (.invokeinterface index count, 5))
    (kk : ∀ (r : Nat) (M1 : Mem) (H1 : Heap) (locs1 : List Loc), mh K M1 H1 → va_S (mFA K) s.heap H1 locs1 → k r M1 → W p l e R s m args below meth c H1 locs1 (cells + rm.cells) (slots + rm.slots) Qf (F0 m (pc + 5) ls (.ref r :: rest))) : W p l e R s m args below meth c H locs cells slots Qf (F0 m pc ls st0) := by
  have hcl := (X.2.1.2.1.1 0 _ rfl).2
  obtain ⟨fs, hb⟩ := hP.1
  exact r_call5 (va_runF hcl X.1 (hct M (vR k) hP.2) (hml.cif X hrm) ⟨mPre_blind, va_recv X.2.1.2.1 (va_P1 (hM b _ hb).2) (ci := 0) (q0 := 0) rfl rfl, fun U hU hW9 => mPre_at X.2.1 hS hM hU hW9⟩ rfl hn hsize hst (lv_room hW) hdg hrm.2) hS (fun v M1 H1 locs1 hM1 hS1 hq => by
    obtain ⟨r, rfl, h⟩ := vR_of hq
    exact kk r M1 H1 locs1 hM1 hS1 h)
theorem r_cast (X : Cx K p l s m args c cc nL own) (hM : mh K M H) {k : Mem → Prop} (hP : mRecv b ci k M) (hc : vwCl[ci]? = some (C, T, N)) (hlk : Cond.classLink own index C ∈ mLA) (hdg : decode cc pc = .ok (.checkcast index, 3))
    (kk : k M → W p l e R s m args below meth c H locs cells slots Qf (F0 m (pc + 3) ls (.ref b :: rest))) : W p l e R s m args below meth c H locs cells slots Qf (F0 m pc ls (.ref b :: rest)) := by
  obtain ⟨⟨fs, hb⟩, hk⟩ := hP
  obtain ⟨⟨hx, hb9, hml, hown, hts⟩, hG, -⟩ := X
  exact va_castS hx hb9 hown (hts _ hlk) (hG.2.1.1 ci _ hc).2 (va_recv hG.2.1 (va_P1 (hM b _ hb).2) (ci := ci) (q0 := 0) hc rfl) hdg (kk hk)
theorem mIf_t {c9 : Prop} [Decidable c9] {A B : Mem → Prop} (h : mIf c9 A B M) (hc : c9) : A M := by
  unfold mIf at h
  rw [if_pos hc] at h
  exact h
theorem mIf_f {c9 : Prop} [Decidable c9] {A B : Mem → Prop} (h : mIf c9 A B M) (hc : ¬ c9) : B M := by
  unfold mIf at h
  rw [if_neg hc] at h
  exact h
theorem r_stO (X : Cx K p l s m args c cc nL own) (hM : mh K M H) (hS : va_S (mFA K) s.heap H locs) {i : Int32} {v : Nat} {k : Mem → Prop} (hP : mStO K a i v k M) (hdg : decode cc pc = .ok (.aastore, 1))
    (kk : ∀ (M1 : Mem) (H1 : Heap) (locs1 : List Loc), mh K M1 H1 → va_S (mFA K) s.heap H1 locs1 → k M1 → W p l e R s m args below meth c H1 locs1 cells slots Qf (F0 m (pc + 1) ls rest)) : W p l e R s m args below meth c H locs cells slots Qf (F0 m pc ls (.ref v :: .int i :: .ref a :: rest)) := by
  obtain ⟨ci, hci, h⟩ := hP
  rcases hci with rfl | rfl | rfl
  · exact r_stqO (C := RX6) (T := TX6) (N := 13) rfl (List.mem_of_getElem? (i := 3) rfl) X hM hS h hdg kk
  · exact r_stqO (C := RX7) (T := TX7) (N := 12) rfl (List.mem_of_getElem? (i := 4) rfl) X hM hS h hdg kk
  · exact r_stqO (C := RX8) (T := TX8) (N := 5) rfl (List.mem_of_getElem? (i := 5) rfl) X hM hS h hdg kk
theorem r_gets (X : Cx K p l s m args c cc nL own) (hS : va_S (mFA K) s.heap H locs) {C n9 d : String} {v : Value} (hZ : va_Z C n9 d v (mFA K) s s.heap) (hlk : Cond.fieldLink own index C n9 d ∈ mLA) (hdg : decode cc pc = .ok (.getstatic index, 3))
    (kk : W p l e R s m args below meth c H locs cells slots Qf (F0 m (pc + 3) ls (v :: rest))) : W p l e R s m args below meth c H locs cells slots Qf (F0 m pc ls rest) := by
  obtain ⟨⟨hx, hb9, hml, hown, hts⟩, hG, -⟩ := X
  exact va_gets hx hb9 hZ hS hown (hts _ hlk) (fun x h => h) hdg kk
theorem r_ldcf (X : Cx K p l s m args c cc nL own) {v : UInt32} (hlk : Cond.constantFloat own index v ∈ mLA) (hdg : decode cc pc = .ok (.ldc index, 2))
    (kk : W p l e R s m args below meth c H locs cells slots Qf (F0 m (pc + 2) ls (.float v :: rest))) : W p l e R s m args below meth c H locs cells slots Qf (F0 m pc ls rest) := lv_ldcf X.1.1 X.1.2.1 X.1.2.2.2.1 (X.1.2.2.2.2 _ hlk) hdg kk
theorem r_ldcfw (X : Cx K p l s m args c cc nL own) {v : UInt32} (hlk : Cond.constantFloat own index v ∈ mLA) (hdg : decode cc pc = .ok (.ldc_w index, 3))
    (kk : W p l e R s m args below meth c H locs cells slots Qf (F0 m (pc + 3) ls (.float v :: rest))) : W p l e R s m args below meth c H locs cells slots Qf (F0 m pc ls rest) := lv_ldcwf X.1.1 X.1.2.1 X.1.2.2.2.1 (X.1.2.2.2.2 _ hlk) hdg kk
theorem r_ldcd (X : Cx K p l s m args c cc nL own) {v : UInt64} (hlk : Cond.constantDouble own index v ∈ mLA) (hdg : decode cc pc = .ok (.ldc2_w index, 3))
    (kk : W p l e R s m args below meth c H locs cells slots Qf (F0 m (pc + 3) ls (.double v :: rest))) : W p l e R s m args below meth c H locs cells slots Qf (F0 m pc ls rest) := lv_ldc2d X.1.1 X.1.2.1 X.1.2.2.2.1 (X.1.2.2.2.2 _ hlk) hdg kk
theorem r_ldcl (X : Cx K p l s m args c cc nL own) {v : Int64} (hlk : Cond.constantLong own index v ∈ mLA) (hdg : decode cc pc = .ok (.ldc2_w index, 3))
    (kk : W p l e R s m args below meth c H locs cells slots Qf (F0 m (pc + 3) ls (.long v :: rest))) : W p l e R s m args below meth c H locs cells slots Qf (F0 m pc ls rest) := lv_ldc2 X.1.1 X.1.2.1 X.1.2.2.2.1 (X.1.2.2.2.2 _ hlk) hdg kk
theorem r_objInit (X : Cx K p l s m args c cc nL own) (hlk : Cond.methodLink own index Lib.objectInit ∈ mLA) (hi : Cond.instanceMethod Lib.objectInit ∈ mLA) (hcd : Cond.code Lib.objectInit ⟨#[0xb1]⟩ 1 none ∈ mLA) (hsize : ls.size = nL) (hfr : 1 ≤ R.frames) (hlo : (rest.map fun v => v.category).sum + 12 ≤ R.locals) (hdg : decode cc pc = .ok (.invokespecial index, 3))
    (kk : W p l e R s m args below meth c H locs cells slots Qf (F0 m (pc + 3) ls rest)) : W p l e R s m args below meth c H locs cells slots Qf (F0 m pc ls (.ref b :: rest)) := by
  obtain ⟨⟨hx, hb9, hml, hown, hts⟩, hG, -⟩ := X
  exact W.objInit (g := F0 m pc ls (.ref b :: rest)) hx hb9 hown (hts _ hlk) (hts _ hi) (hts _ hcd) rfl (hsize.trans hml.symm) rfl hdg hfr (by show 2 * 0 + _ + 12 ≤ _; omega) kk
def mD2L : MethodName := ⟨"java/lang/Double", "doubleToRawLongBits", "(D)J"⟩
def mL2D : MethodName := ⟨"java/lang/Double", "longBitsToDouble", "(J)D"⟩
theorem r_d2l (X : Cx K p l s m args c cc nL own) (hlk : Cond.methodLink own index mD2L ∈ mLA) (hna : Cond.native mD2L ∈ mLA) (hsa : Cond.static mD2L ∈ mLA) (hin : Cond.initialized "java/lang/Double" ∈ mLA) (hsize : ls.size = nL) (hfr : 1 ≤ R.frames) {x : UInt64} (hlo : (rest.map fun v => v.category).sum + 15 ≤ R.locals) (hdg : decode cc pc = .ok (.invokestatic index, 3))
    (kk : W p l e R s m args below meth c H locs cells slots Qf (F0 m (pc + 3) ls (.long x.toInt64 :: rest))) : W p l e R s m args below meth c H locs cells slots Qf (F0 m pc ls (.double x :: rest)) := by
  obtain ⟨⟨hx, hb9, hml, hown, hts⟩, hG, -⟩ := X
  exact vn_d2l hx hb9 (hml.trans hsize.symm) hown (hts _ hlk) (hts _ hna) (hts _ hsa) (hts _ hin) hfr hlo hdg kk
theorem r_l2d (X : Cx K p l s m args c cc nL own) (hlk : Cond.methodLink own index mL2D ∈ mLA) (hna : Cond.native mL2D ∈ mLA) (hsa : Cond.static mL2D ∈ mLA) (hin : Cond.initialized "java/lang/Double" ∈ mLA) (hsize : ls.size = nL) (hfr : 1 ≤ R.frames) {x : Int64} (hv : vn_snl2d x = false) (hlo : (rest.map fun v => v.category).sum + 15 ≤ R.locals) (hdg : decode cc pc = .ok (.invokestatic index, 3))
    (kk : W p l e R s m args below meth c H locs cells slots Qf (F0 m (pc + 3) ls (.double x.toUInt64 :: rest))) : W p l e R s m args below meth c H locs cells slots Qf (F0 m pc ls (.long x :: rest)) := by
  obtain ⟨⟨hx, hb9, hml, hown, hts⟩, hG, -⟩ := X
  exact vn_l2d hx hb9 (hml.trans hsize.symm) hown (hts _ hlk) (hts _ hna) (hts _ hsa) (hts _ hin) hv hfr hlo hdg kk
theorem e_iret {mc ms : Nat} (X : Cx K p l s m args c cc nL own) (hM : mh K M H) (hS : va_S (mFA K) s.heap H locs) {Q : Option Value → Mem → Prop} {x : Int32} (hP : Q (some (.int x)) M) (hr : meth.sig.returnType = some .int) (hlocks : meth.locks = false) (hc : cells ≤ mc) (hs : slots ≤ ms) (hdg : decode cc pc = .ok (.ireturn, 1)) : W p l e R s m args below meth c H locs cells slots (MQ below (mQ K Q) args s mc ms (mFA K)) (F0 m pc ls [.int x]) :=
  W.widen hc hs (W.iret X.1.1 X.1.2.1 hr (fun t ht hW9 => ⟨_, M, rfl, hP, by rw [ht]; exact hM, hS.F ht⟩) hS.2.2 hdg hlocks)
theorem e_lret {mc ms : Nat} (X : Cx K p l s m args c cc nL own) (hM : mh K M H) (hS : va_S (mFA K) s.heap H locs) {Q : Option Value → Mem → Prop} {x : Int64} (hP : Q (some (.long x)) M) (hr : meth.sig.returnType = some .long) (hlocks : meth.locks = false) (hc : cells ≤ mc) (hs : slots ≤ ms) (hdg : decode cc pc = .ok (.lreturn, 1)) : W p l e R s m args below meth c H locs cells slots (MQ below (mQ K Q) args s mc ms (mFA K)) (F0 m pc ls [.long x]) :=
  W.widen hc hs (W.lret X.1.1 X.1.2.1 hr (fun t ht hW9 => ⟨_, M, rfl, hP, by rw [ht]; exact hM, hS.F ht⟩) hS.2.2 hdg hlocks)
theorem e_fret {mc ms : Nat} (X : Cx K p l s m args c cc nL own) (hM : mh K M H) (hS : va_S (mFA K) s.heap H locs) {Q : Option Value → Mem → Prop} {x : UInt32} (hP : Q (some (.float x)) M) (hr : meth.sig.returnType = some .float) (hlocks : meth.locks = false) (hc : cells ≤ mc) (hs : slots ≤ ms) (hdg : decode cc pc = .ok (.freturn, 1)) : W p l e R s m args below meth c H locs cells slots (MQ below (mQ K Q) args s mc ms (mFA K)) (F0 m pc ls [.float x]) :=
  W.widen hc hs (W.fret X.1.1 X.1.2.1 hr (fun t ht hW9 => ⟨_, M, rfl, hP, by rw [ht]; exact hM, hS.F ht⟩) hS.2.2 hdg hlocks)
theorem e_dret {mc ms : Nat} (X : Cx K p l s m args c cc nL own) (hM : mh K M H) (hS : va_S (mFA K) s.heap H locs) {Q : Option Value → Mem → Prop} {x : UInt64} (hP : Q (some (.double x)) M) (hr : meth.sig.returnType = some .double) (hlocks : meth.locks = false) (hc : cells ≤ mc) (hs : slots ≤ ms) (hdg : decode cc pc = .ok (.dreturn, 1)) : W p l e R s m args below meth c H locs cells slots (MQ below (mQ K Q) args s mc ms (mFA K)) (F0 m pc ls [.double x]) :=
  W.widen hc hs (W.dret X.1.1 X.1.2.1 hr (fun t ht hW9 => ⟨_, M, rfl, hP, by rw [ht]; exact hM, hS.F ht⟩) hS.2.2 hdg hlocks)
theorem e_zret {mc ms : Nat} (X : Cx K p l s m args c cc nL own) (hM : mh K M H) (hS : va_S (mFA K) s.heap H locs) {Q : Option Value → Mem → Prop} {x : Int32} (hz : x = 0 ∨ x = 1) (hP : Q (some (.int x)) M) (hr : meth.sig.returnType = some .boolean) (hlocks : meth.locks = false) (hc : cells ≤ mc) (hs : slots ≤ ms) (hdg : decode cc pc = .ok (.ireturn, 1)) : W p l e R s m args below meth c H locs cells slots (MQ below (mQ K Q) args s mc ms (mFA K)) (F0 m pc ls [.int x]) :=
  W.widen hc hs (W.zret X.1.1 X.1.2.1 hr (narrow_z hz).1 (fun t ht hW9 => ⟨_, M, rfl, hP, by rw [ht]; exact hM, hS.F ht⟩) hS.2.2 hdg hlocks)
theorem e_aret {mc ms : Nat} (X : Cx K p l s m args c cc nL own) (hM : mh K M H) (hS : va_S (mFA K) s.heap H locs) {Q : Option Value → Mem → Prop} {x : Nat} (hP : Q (some (.ref x)) M) {rt : FieldType} (hr : meth.sig.returnType = some rt) (hrt : (∃ n, rt = .object n) ∨ ∃ t, rt = .array t) (hlocks : meth.locks = false) (hc : cells ≤ mc) (hs : slots ≤ ms) (hdg : decode cc pc = .ok (.areturn, 1)) : W p l e R s m args below meth c H locs cells slots (MQ below (mQ K Q) args s mc ms (mFA K)) (F0 m pc ls [.ref x]) :=
  W.widen hc hs (W.aret X.1.1 X.1.2.1 hr hrt (Or.inr ⟨x, rfl⟩) (fun t ht hW9 => ⟨_, M, rfl, hP, by rw [ht]; exact hM, hS.F ht⟩) hS.2.2 hdg hlocks)
theorem e_vret {mc ms : Nat} (X : Cx K p l s m args c cc nL own) (hM : mh K M H) (hS : va_S (mFA K) s.heap H locs) {Q : Option Value → Mem → Prop} (hP : Q none M) (hr : meth.sig.returnType = none) (hlocks : meth.locks = false) (hc : cells ≤ mc) (hs : slots ≤ ms) (hdg : decode cc pc = .ok (.return_, 1)) : W p l e R s m args below meth c H locs cells slots (MQ below (mQ K Q) args s mc ms (mFA K)) (F0 m pc ls []) :=
  W.widen hc hs (W.vret X.1.1 X.1.2.1 hr (fun t ht hW9 => ⟨_, M, rfl, hP, by rw [ht]; exact hM, hS.F ht⟩) hS.2.2 hdg hlocks)
/-- not caught here -/
theorem x_out {QX : String → Mem → Prop} {Qc : Array Value → State → Outcome → State → Prop} {mc ms : Nat} (hno : ∀ x ∈ c.exceptionTable.toList, False) (hlocks : meth.locks = false) (hc : cells = 0) (hs : slots = 0) :
    ∀ (E : String) (ce : Cell) (q9 : Addr) (M1 : Mem) (H1 : Heap) (locs1 : List Loc), mh K M1 H1 → va_S (mFA K) s.heap H1 locs1 → QX E M1 → H1[q9]? = some ce → ce.vm = .none → s.vm.findClass E = some ce.cls → vx_W p l e R s m args below meth c H1 locs1 (cells + 1) (slots + 6) (vy_MQ below Qc (mX K QX) args s mc ms 1 6 (mFA K)) (F0 m pc ls rest) q9 := by
  subst hc
  subst hs
  intro E ce q9 M1 H1 locs1 hM1 hS1 hq hce hcv hcl
  exact vy_out (fun x hx => (hno x hx).elim) hlocks hce hcv hcl (fun t ht hA => ⟨M1, hq, by rw [ht]; exact hM1, hS1.F ht⟩) hS1.2.2 (Nat.le_refl _) (Nat.le_refl _)
/-- it never throws -/
theorem x_never {QX : String → Mem → Prop} (h : ∀ E M1, ¬ QX E M1) :
    ∀ (E : String) (ce : Cell) (q9 : Addr) (M1 : Mem) (H1 : Heap) (locs1 : List Loc), mh K M1 H1 → va_S (mFA K) s.heap H1 locs1 → QX E M1 → H1[q9]? = some ce → ce.vm = .none → s.vm.findClass E = some ce.cls → vx_W p l e R s m args below meth c H1 locs1 (cells + 1) (slots + 6) Qf (F0 m pc ls rest) q9 :=
  fun E ce q9 M1 H1 locs1 hM1 hS1 hq => (h E M1 hq).elim
abbrev mNames : List String := ["java/lang/RuntimeException", "java/lang/Exception"]
/-- a throw of a new exception of class cls with a text, by own: its places of the pool -/
def mTh (own cls text : String) (ik is ic : Nat) : Prop := Cond.classLink own ik cls ∈ mLA ∧ Cond.initialized cls ∈ mLA ∧ (own, is, text) ∈ mStr ∧ (∀ w ∈ (vx_atS own ic cls mNames).filter goodWord, w ∈ lw_tbl) ∧ (cls, cls) ∈ mNwC ∧ (∀ w ∈ (vx_atS own ic cls mNames).filter (fun w => !goodWord w), w ∈ [Cond.castable cls cls, Cond.declares ⟨"java/lang/RuntimeException", "<init>", "(Ljava/lang/String;)V"⟩, Cond.declares ⟨"java/lang/Exception", "<init>", "(Ljava/lang/String;)V"⟩, Cond.declares ⟨"java/lang/Throwable", "<init>", "(Ljava/lang/String;)V"⟩]) ∧ Bundle.fit cls = true ∧ (∀ w ∈ Cond.classLink own ik cls :: Cond.initialized cls :: vx_atS own ic cls mNames, vx_ot w = true)
theorem mTh.at {cls text : String} {ik is ic : Nat} (h : mTh own cls text ik is ic) (X : Cx K p l s m args c cc nL own) : ∀ w ∈ vx_atS own ic cls mNames, w.before args s = true := by
  have hts := X.1.2.2.2.2
  obtain ⟨h3, h4⟩ : (∀ q ∈ mNwC, va_Nw (.castable q.1 q.2) s) ∧ ∀ q ∈ mNwD, va_Nw (.declares q) s := ⟨X.2.1.2.2.1.2.2.1, X.2.1.2.2.1.2.2.2⟩
  exact vx_hat (fun w hw => hts w (mLA_in (h.2.2.2.1 w hw) (List.mem_filter.mp hw).2)) h.2.2.2.2.2.1 (vx_c (va_Nw.use rfl (h3 (cls, cls) h.2.2.2.2.1)) (vx_c (va_Nw.use rfl (h4 _ (List.mem_of_getElem? (i := 0) rfl))) (vx_c (va_Nw.use rfl (h4 _ (List.mem_of_getElem? (i := 1) rfl))) (vx_c (va_Nw.use rfl (h4 _ (List.mem_of_getElem? (i := 2) rfl))) vx_n))))
theorem mNames_fit : ∀ n ∈ mNames, Bundle.fit n = true := by decide +kernel
theorem e_throw {cls text : String} {ik is ic mc ms : Nat} {Qc : Array Value → State → Outcome → State → Prop} {QX : String → Mem → Prop} (X : Cx K p l s m args c cc nL own) (hM : mh K M H) (hS : va_S (mFA K) s.heap H locs) (hP : QX cls M) (hth : mTh own cls text ik is ic) (hno : ∀ x ∈ c.exceptionTable.toList, False) (hlocks : meth.locks = false) (hsize : ls.size = nL) (hc : cells = 0) (hs : slots = 0) (hR : 5 < R.frames ∧ (rest.map fun v => v.category).sum + 82 ≤ R.locals ∧ 1 ≤ R.cells ∧ 6 ≤ R.slots)
    (d0 : decode cc pc = .ok (.new ik, 3)) (d3 : decode cc (pc + 3) = .ok (.dup, 1)) (d4 : decode cc (pc + 4) = .ok (.ldc is, 2)) (d6 : decode cc (pc + 6) = .ok (.invokespecial ic, 3)) (d9 : decode cc (pc + 9) = .ok (.athrow, 1)) :
    W p l e R s m args below meth c H locs cells slots (vy_MQ below Qc (mX K QX) args s mc ms 1 6 (mFA K)) (F0 m pc ls rest) := by
  subst hc
  subst hs
  have hat := hth.at X
  obtain ⟨⟨hx, hb, hml, hown, hts⟩, hG, hl⟩ := X
  obtain ⟨sa, hsa⟩ := hG.2.2.2.1.2.2.2.1 _ hth.2.2.1
  refine vy_thrown (vx_throwS (A := mFA K) (names := mNames) hx hb hl hown hth.2.2.2.2.2.2.1 mNames_fit (hts _ hth.1) (hts _ hth.2.1) hsa hat hth.2.2.2.2.2.2.2 hG.2.2.2.2.1.1 hG.2.2.2.2.1.2 hS (hsize.trans hml.symm) d0 d3 d4 d6 d9 (fun x hx => (hno x hx).elim) hR.1 hR.2.1 hR.2.2.1 hR.2.2.2 hlocks (fun t hA hz ho => ⟨M, hP, hM.kept ho, ?_⟩) hS.2.2 (Nat.le_refl _) (Nat.le_refl _))
  exact ⟨Nat.le_trans hS.1 hz, fun q h1 h2 => (ho q (Nat.lt_of_lt_of_le h1 hS.1)).trans (hS.2.1 q h1 h2)⟩
theorem e_throwW {cls text : String} {ik is ic mc ms : Nat} {Qc : Array Value → State → Outcome → State → Prop} {QX : String → Mem → Prop} (X : Cx K p l s m args c cc nL own) (hM : mh K M H) (hS : va_S (mFA K) s.heap H locs) (hP : QX cls M) (hth : mTh own cls text ik is ic) (hno : ∀ x ∈ c.exceptionTable.toList, False) (hlocks : meth.locks = false) (hsize : ls.size = nL) (hc : cells = 0) (hs : slots = 0) (hR : 5 < R.frames ∧ (rest.map fun v => v.category).sum + 82 ≤ R.locals ∧ 1 ≤ R.cells ∧ 6 ≤ R.slots)
    (d0 : decode cc pc = .ok (.new ik, 3)) (d3 : decode cc (pc + 3) = .ok (.dup, 1)) (d4 : decode cc (pc + 4) = .ok (.ldc_w is, 3)) (d7 : decode cc (pc + 7) = .ok (.invokespecial ic, 3)) (d10 : decode cc (pc + 10) = .ok (.athrow, 1)) :
    W p l e R s m args below meth c H locs cells slots (vy_MQ below Qc (mX K QX) args s mc ms 1 6 (mFA K)) (F0 m pc ls rest) := by
  subst hc
  subst hs
  have hat := hth.at X
  obtain ⟨⟨hx, hb, hml, hown, hts⟩, hG, hl⟩ := X
  obtain ⟨sa, hsa⟩ := hG.2.2.2.1.2.2.2.1 _ hth.2.2.1
  refine vy_thrown (vx_throwSW (A := mFA K) (names := mNames) hx hb hl hown hth.2.2.2.2.2.2.1 mNames_fit (hts _ hth.1) (hts _ hth.2.1) hsa hat hth.2.2.2.2.2.2.2 hG.2.2.2.2.1.1 hG.2.2.2.2.1.2 hS (hsize.trans hml.symm) d0 d3 d4 d7 d10 (fun x hx => (hno x hx).elim) hR.1 hR.2.1 hR.2.2.1 hR.2.2.2 hlocks (fun t hA hz ho => ⟨M, hP, hM.kept ho, ?_⟩) hS.2.2 (Nat.le_refl _) (Nat.le_refl _))
  exact ⟨Nat.le_trans hS.1 hz, fun q h1 h2 => (ho q (Nat.lt_of_lt_of_le h1 hS.1)).trans (hS.2.1 q h1 h2)⟩
end MROWS3
end
