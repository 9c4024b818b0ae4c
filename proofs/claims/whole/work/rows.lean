section
/-- a private method of a class that the tables say can be made, by its rows of tables_1 -/
def lw_okq (q : MethodName × Nat) : Prop := (q.1.cls ≠ "java/lang/invoke/MethodHandle" ∧ q.1.cls ≠ "java/lang/invoke/VarHandle") ∧ Cond.instantiable q.1.cls q.2 ∈ tables_1 ∧ Cond.privateMethod q.1 ∈ tables_1 ∧ Cond.instanceMethod q.1 ∈ tables_1
theorem lw_p0 : lw_okq (⟨"OvenNoses$Script", "nextToken", "()V"⟩, 6) := ⟨⟨by decide +kernel, by decide +kernel⟩, List.mem_of_getElem? (i := 19) (by decide +kernel), List.mem_of_getElem? (i := 178) (by decide +kernel), List.mem_of_getElem? (i := 179) (by decide +kernel)⟩
theorem lw_p1 : lw_okq (⟨"OvenNoses$Script", "takeLetters", "()V"⟩, 6) := ⟨⟨by decide +kernel, by decide +kernel⟩, List.mem_of_getElem? (i := 19) (by decide +kernel), List.mem_of_getElem? (i := 185) (by decide +kernel), List.mem_of_getElem? (i := 186) (by decide +kernel)⟩
theorem lw_p2 : lw_okq (⟨"OvenNoses$Script", "takeNumber", "()V"⟩, 6) := ⟨⟨by decide +kernel, by decide +kernel⟩, List.mem_of_getElem? (i := 19) (by decide +kernel), List.mem_of_getElem? (i := 192) (by decide +kernel), List.mem_of_getElem? (i := 193) (by decide +kernel)⟩
theorem lw_p3 : lw_okq (⟨"OvenNoses$Script", "readItem", "(LOvenNoses$Told;)Z"⟩, 6) := ⟨⟨by decide +kernel, by decide +kernel⟩, List.mem_of_getElem? (i := 19) (by decide +kernel), List.mem_of_getElem? (i := 199) (by decide +kernel), List.mem_of_getElem? (i := 200) (by decide +kernel)⟩
theorem lw_p4 : lw_okq (⟨"OvenNoses$Script", "readOvenNumbers", "(LOvenNoses$Told;)Z"⟩, 6) := ⟨⟨by decide +kernel, by decide +kernel⟩, List.mem_of_getElem? (i := 19) (by decide +kernel), List.mem_of_getElem? (i := 207) (by decide +kernel), List.mem_of_getElem? (i := 208) (by decide +kernel)⟩
theorem lw_p5 : lw_okq (⟨"OvenNoses$Script", "isNumberWithin", "(II)Z"⟩, 6) := ⟨⟨by decide +kernel, by decide +kernel⟩, List.mem_of_getElem? (i := 19) (by decide +kernel), List.mem_of_getElem? (i := 213) (by decide +kernel), List.mem_of_getElem? (i := 214) (by decide +kernel)⟩
theorem lw_p6 : lw_okq (⟨"OvenNoses$Script", "readDoughNumbers", "(LOvenNoses$Told;)Z"⟩, 6) := ⟨⟨by decide +kernel, by decide +kernel⟩, List.mem_of_getElem? (i := 19) (by decide +kernel), List.mem_of_getElem? (i := 225) (by decide +kernel), List.mem_of_getElem? (i := 226) (by decide +kernel)⟩
theorem lw_p7 : lw_okq (⟨"OvenNoses$Course", "base", "()I"⟩, 2) := ⟨⟨by decide +kernel, by decide +kernel⟩, List.mem_of_getElem? (i := 64) (by decide +kernel), List.mem_of_getElem? (i := 276) (by decide +kernel), List.mem_of_getElem? (i := 277) (by decide +kernel)⟩
theorem lw_p8 : lw_okq (⟨"OvenNoses", "isOut", "(I)Z"⟩, 13) := ⟨⟨by decide +kernel, by decide +kernel⟩, List.mem_of_getElem? (i := 11) (by decide +kernel), List.mem_of_getElem? (i := 311) (by decide +kernel), List.mem_of_getElem? (i := 312) (by decide +kernel)⟩
theorem lw_p9 : lw_okq (⟨"OvenNoses", "noseOf", "(II)I"⟩, 13) := ⟨⟨by decide +kernel, by decide +kernel⟩, List.mem_of_getElem? (i := 11) (by decide +kernel), List.mem_of_getElem? (i := 315) (by decide +kernel), List.mem_of_getElem? (i := 316) (by decide +kernel)⟩
theorem lw_p10 : lw_okq (⟨"OvenNoses", "smellOf", "(III)I"⟩, 13) := ⟨⟨by decide +kernel, by decide +kernel⟩, List.mem_of_getElem? (i := 11) (by decide +kernel), List.mem_of_getElem? (i := 323) (by decide +kernel), List.mem_of_getElem? (i := 324) (by decide +kernel)⟩
theorem lw_p11 : lw_okq (⟨"OvenNoses", "liking", "(III)I"⟩, 13) := ⟨⟨by decide +kernel, by decide +kernel⟩, List.mem_of_getElem? (i := 11) (by decide +kernel), List.mem_of_getElem? (i := 328) (by decide +kernel), List.mem_of_getElem? (i := 329) (by decide +kernel)⟩
theorem lw_p12 : lw_okq (⟨"OvenNoses", "mayGoIn", "(I)Z"⟩, 13) := ⟨⟨by decide +kernel, by decide +kernel⟩, List.mem_of_getElem? (i := 11) (by decide +kernel), List.mem_of_getElem? (i := 340) (by decide +kernel), List.mem_of_getElem? (i := 341) (by decide +kernel)⟩
theorem lw_p13 : lw_okq (⟨"OvenNoses", "outAndGoneSour", "()I"⟩, 13) := ⟨⟨by decide +kernel, by decide +kernel⟩, List.mem_of_getElem? (i := 11) (by decide +kernel), List.mem_of_getElem? (i := 401) (by decide +kernel), List.mem_of_getElem? (i := 402) (by decide +kernel)⟩
theorem lw_p14 : lw_okq (⟨"OvenNoses$RowSearch", "extend", "(LOvenNoses$Told;III)V"⟩, 6) := ⟨⟨by decide +kernel, by decide +kernel⟩, List.mem_of_getElem? (i := 81) (by decide +kernel), List.mem_of_getElem? (i := 433) (by decide +kernel), List.mem_of_getElem? (i := 434) (by decide +kernel)⟩
theorem lw_p15 : lw_okq (⟨"OvenNoses$RowSearch", "weigh", "(II)V"⟩, 6) := ⟨⟨by decide +kernel, by decide +kernel⟩, List.mem_of_getElem? (i := 81) (by decide +kernel), List.mem_of_getElem? (i := 437) (by decide +kernel), List.mem_of_getElem? (i := 438) (by decide +kernel)⟩
def lw_privs_1 : List (MethodName × Nat) := [(⟨"OvenNoses$Script", "nextToken", "()V"⟩, 6), (⟨"OvenNoses$Script", "takeLetters", "()V"⟩, 6), (⟨"OvenNoses$Script", "takeNumber", "()V"⟩, 6), (⟨"OvenNoses$Script", "readItem", "(LOvenNoses$Told;)Z"⟩, 6), (⟨"OvenNoses$Script", "readOvenNumbers", "(LOvenNoses$Told;)Z"⟩, 6), (⟨"OvenNoses$Script", "isNumberWithin", "(II)Z"⟩, 6), (⟨"OvenNoses$Script", "readDoughNumbers", "(LOvenNoses$Told;)Z"⟩, 6), (⟨"OvenNoses$Course", "base", "()I"⟩, 2), (⟨"OvenNoses", "isOut", "(I)Z"⟩, 13), (⟨"OvenNoses", "noseOf", "(II)I"⟩, 13), (⟨"OvenNoses", "smellOf", "(III)I"⟩, 13), (⟨"OvenNoses", "liking", "(III)I"⟩, 13), (⟨"OvenNoses", "mayGoIn", "(I)Z"⟩, 13), (⟨"OvenNoses", "outAndGoneSour", "()I"⟩, 13), (⟨"OvenNoses$RowSearch", "extend", "(LOvenNoses$Told;III)V"⟩, 6), (⟨"OvenNoses$RowSearch", "weigh", "(II)V"⟩, 6)]
theorem lw_r1 : ∀ q ∈ lw_privs_1, lw_okq q := List.forall_mem_cons.mpr ⟨lw_p0, List.forall_mem_cons.mpr ⟨lw_p1, List.forall_mem_cons.mpr ⟨lw_p2, List.forall_mem_cons.mpr ⟨lw_p3, List.forall_mem_cons.mpr ⟨lw_p4, List.forall_mem_cons.mpr ⟨lw_p5, List.forall_mem_cons.mpr ⟨lw_p6, List.forall_mem_cons.mpr ⟨lw_p7, List.forall_mem_cons.mpr ⟨lw_p8, List.forall_mem_cons.mpr ⟨lw_p9, List.forall_mem_cons.mpr ⟨lw_p10, List.forall_mem_cons.mpr ⟨lw_p11, List.forall_mem_cons.mpr ⟨lw_p12, List.forall_mem_cons.mpr ⟨lw_p13, List.forall_mem_cons.mpr ⟨lw_p14, List.forall_mem_cons.mpr ⟨lw_p15, fun _ h => absurd h List.not_mem_nil⟩⟩⟩⟩⟩⟩⟩⟩⟩⟩⟩⟩⟩⟩⟩⟩
theorem lw_p16 : lw_okq (⟨"OvenNoses", "rivalsOf", "(II)I"⟩, 13) := ⟨⟨by decide +kernel, by decide +kernel⟩, List.mem_of_getElem? (i := 11) (by decide +kernel), List.mem_of_getElem? (i := 466) (by decide +kernel), List.mem_of_getElem? (i := 467) (by decide +kernel)⟩
theorem lw_p17 : lw_okq (⟨"OvenNoses", "allLedWith", "(I)Z"⟩, 13) := ⟨⟨by decide +kernel, by decide +kernel⟩, List.mem_of_getElem? (i := 11) (by decide +kernel), List.mem_of_getElem? (i := 485) (by decide +kernel), List.mem_of_getElem? (i := 486) (by decide +kernel)⟩
theorem lw_p18 : lw_okq (⟨"OvenNoses", "asDough", "(I)I"⟩, 13) := ⟨⟨by decide +kernel, by decide +kernel⟩, List.mem_of_getElem? (i := 11) (by decide +kernel), List.mem_of_getElem? (i := 493) (by decide +kernel), List.mem_of_getElem? (i := 494) (by decide +kernel)⟩
theorem lw_p19 : lw_okq (⟨"OvenNoses", "asCake", "(I)I"⟩, 13) := ⟨⟨by decide +kernel, by decide +kernel⟩, List.mem_of_getElem? (i := 11) (by decide +kernel), List.mem_of_getElem? (i := 497) (by decide +kernel), List.mem_of_getElem? (i := 498) (by decide +kernel)⟩
theorem lw_p20 : lw_okq (⟨"OvenNoses", "asHerring", "(I)I"⟩, 13) := ⟨⟨by decide +kernel, by decide +kernel⟩, List.mem_of_getElem? (i := 11) (by decide +kernel), List.mem_of_getElem? (i := 502) (by decide +kernel), List.mem_of_getElem? (i := 503) (by decide +kernel)⟩
theorem lw_p21 : lw_okq (⟨"OvenNoses", "asBride", "(I)I"⟩, 13) := ⟨⟨by decide +kernel, by decide +kernel⟩, List.mem_of_getElem? (i := 11) (by decide +kernel), List.mem_of_getElem? (i := 507) (by decide +kernel), List.mem_of_getElem? (i := 508) (by decide +kernel)⟩
theorem lw_p22 : lw_okq (⟨"OvenNoses", "asWidow", "(I)I"⟩, 13) := ⟨⟨by decide +kernel, by decide +kernel⟩, List.mem_of_getElem? (i := 11) (by decide +kernel), List.mem_of_getElem? (i := 512) (by decide +kernel), List.mem_of_getElem? (i := 513) (by decide +kernel)⟩
theorem lw_p23 : lw_okq (⟨"OvenNoses", "asSniff", "(I)I"⟩, 13) := ⟨⟨by decide +kernel, by decide +kernel⟩, List.mem_of_getElem? (i := 11) (by decide +kernel), List.mem_of_getElem? (i := 517) (by decide +kernel), List.mem_of_getElem? (i := 518) (by decide +kernel)⟩
theorem lw_p24 : lw_okq (⟨"OvenNoses", "imageCourse", "(I)LOvenNoses$Course;"⟩, 13) := ⟨⟨by decide +kernel, by decide +kernel⟩, List.mem_of_getElem? (i := 11) (by decide +kernel), List.mem_of_getElem? (i := 526) (by decide +kernel), List.mem_of_getElem? (i := 527) (by decide +kernel)⟩
theorem lw_p25 : lw_okq (⟨"OvenNosesModel", "reads", "()Z"⟩, 17) := ⟨⟨by decide +kernel, by decide +kernel⟩, List.mem_of_getElem? (i := 546) (by decide +kernel), List.mem_of_getElem? (i := 552) (by decide +kernel), List.mem_of_getElem? (i := 553) (by decide +kernel)⟩
theorem lw_p26 : lw_okq (⟨"OvenNosesModel", "token", "()V"⟩, 17) := ⟨⟨by decide +kernel, by decide +kernel⟩, List.mem_of_getElem? (i := 546) (by decide +kernel), List.mem_of_getElem? (i := 556) (by decide +kernel), List.mem_of_getElem? (i := 557) (by decide +kernel)⟩
theorem lw_p27 : lw_okq (⟨"OvenNosesModel", "letterAt", "(I)I"⟩, 17) := ⟨⟨by decide +kernel, by decide +kernel⟩, List.mem_of_getElem? (i := 546) (by decide +kernel), List.mem_of_getElem? (i := 560) (by decide +kernel), List.mem_of_getElem? (i := 561) (by decide +kernel)⟩
theorem lw_p28 : lw_okq (⟨"OvenNosesModel", "readsItem", "()Z"⟩, 17) := ⟨⟨by decide +kernel, by decide +kernel⟩, List.mem_of_getElem? (i := 546) (by decide +kernel), List.mem_of_getElem? (i := 573) (by decide +kernel), List.mem_of_getElem? (i := 574) (by decide +kernel)⟩
theorem lw_p29 : lw_okq (⟨"OvenNosesModel", "number", "(III)Z"⟩, 17) := ⟨⟨by decide +kernel, by decide +kernel⟩, List.mem_of_getElem? (i := 546) (by decide +kernel), List.mem_of_getElem? (i := 577) (by decide +kernel), List.mem_of_getElem? (i := 578) (by decide +kernel)⟩
theorem lw_p30 : lw_okq (⟨"OvenNosesModel", "begins", "()V"⟩, 17) := ⟨⟨by decide +kernel, by decide +kernel⟩, List.mem_of_getElem? (i := 546) (by decide +kernel), List.mem_of_getElem? (i := 581) (by decide +kernel), List.mem_of_getElem? (i := 582) (by decide +kernel)⟩
theorem lw_p31 : lw_okq (⟨"OvenNosesModel", "isOven", "(I)Z"⟩, 17) := ⟨⟨by decide +kernel, by decide +kernel⟩, List.mem_of_getElem? (i := 546) (by decide +kernel), List.mem_of_getElem? (i := 654) (by decide +kernel), List.mem_of_getElem? (i := 655) (by decide +kernel)⟩
def lw_privs_2 : List (MethodName × Nat) := [(⟨"OvenNoses", "rivalsOf", "(II)I"⟩, 13), (⟨"OvenNoses", "allLedWith", "(I)Z"⟩, 13), (⟨"OvenNoses", "asDough", "(I)I"⟩, 13), (⟨"OvenNoses", "asCake", "(I)I"⟩, 13), (⟨"OvenNoses", "asHerring", "(I)I"⟩, 13), (⟨"OvenNoses", "asBride", "(I)I"⟩, 13), (⟨"OvenNoses", "asWidow", "(I)I"⟩, 13), (⟨"OvenNoses", "asSniff", "(I)I"⟩, 13), (⟨"OvenNoses", "imageCourse", "(I)LOvenNoses$Course;"⟩, 13), (⟨"OvenNosesModel", "reads", "()Z"⟩, 17), (⟨"OvenNosesModel", "token", "()V"⟩, 17), (⟨"OvenNosesModel", "letterAt", "(I)I"⟩, 17), (⟨"OvenNosesModel", "readsItem", "()Z"⟩, 17), (⟨"OvenNosesModel", "number", "(III)Z"⟩, 17), (⟨"OvenNosesModel", "begins", "()V"⟩, 17), (⟨"OvenNosesModel", "isOven", "(I)Z"⟩, 17)]
theorem lw_r2 : ∀ q ∈ lw_privs_2, lw_okq q := List.forall_mem_cons.mpr ⟨lw_p16, List.forall_mem_cons.mpr ⟨lw_p17, List.forall_mem_cons.mpr ⟨lw_p18, List.forall_mem_cons.mpr ⟨lw_p19, List.forall_mem_cons.mpr ⟨lw_p20, List.forall_mem_cons.mpr ⟨lw_p21, List.forall_mem_cons.mpr ⟨lw_p22, List.forall_mem_cons.mpr ⟨lw_p23, List.forall_mem_cons.mpr ⟨lw_p24, List.forall_mem_cons.mpr ⟨lw_p25, List.forall_mem_cons.mpr ⟨lw_p26, List.forall_mem_cons.mpr ⟨lw_p27, List.forall_mem_cons.mpr ⟨lw_p28, List.forall_mem_cons.mpr ⟨lw_p29, List.forall_mem_cons.mpr ⟨lw_p30, List.forall_mem_cons.mpr ⟨lw_p31, fun _ h => absurd h List.not_mem_nil⟩⟩⟩⟩⟩⟩⟩⟩⟩⟩⟩⟩⟩⟩⟩⟩
theorem lw_p32 : lw_okq (⟨"OvenNosesModel", "whereAll", "(I)I"⟩, 17) := ⟨⟨by decide +kernel, by decide +kernel⟩, List.mem_of_getElem? (i := 546) (by decide +kernel), List.mem_of_getElem? (i := 659) (by decide +kernel), List.mem_of_getElem? (i := 660) (by decide +kernel)⟩
theorem lw_p33 : lw_okq (⟨"OvenNosesModel", "hot", "(I)I"⟩, 17) := ⟨⟨by decide +kernel, by decide +kernel⟩, List.mem_of_getElem? (i := 546) (by decide +kernel), List.mem_of_getElem? (i := 663) (by decide +kernel), List.mem_of_getElem? (i := 664) (by decide +kernel)⟩
theorem lw_p34 : lw_okq (⟨"OvenNosesModel", "isShut", "(I)Z"⟩, 17) := ⟨⟨by decide +kernel, by decide +kernel⟩, List.mem_of_getElem? (i := 546) (by decide +kernel), List.mem_of_getElem? (i := 670) (by decide +kernel), List.mem_of_getElem? (i := 671) (by decide +kernel)⟩
theorem lw_p35 : lw_okq (⟨"OvenNosesModel", "isDough", "(I)Z"⟩, 17) := ⟨⟨by decide +kernel, by decide +kernel⟩, List.mem_of_getElem? (i := 546) (by decide +kernel), List.mem_of_getElem? (i := 678) (by decide +kernel), List.mem_of_getElem? (i := 679) (by decide +kernel)⟩
theorem lw_p36 : lw_okq (⟨"OvenNosesModel", "isOut", "(I)Z"⟩, 17) := ⟨⟨by decide +kernel, by decide +kernel⟩, List.mem_of_getElem? (i := 546) (by decide +kernel), List.mem_of_getElem? (i := 682) (by decide +kernel), List.mem_of_getElem? (i := 683) (by decide +kernel)⟩
theorem lw_p37 : lw_okq (⟨"OvenNosesModel", "noseOf", "(II)I"⟩, 17) := ⟨⟨by decide +kernel, by decide +kernel⟩, List.mem_of_getElem? (i := 546) (by decide +kernel), List.mem_of_getElem? (i := 686) (by decide +kernel), List.mem_of_getElem? (i := 687) (by decide +kernel)⟩
theorem lw_p38 : lw_okq (⟨"OvenNosesModel", "smellOf", "(II)I"⟩, 17) := ⟨⟨by decide +kernel, by decide +kernel⟩, List.mem_of_getElem? (i := 546) (by decide +kernel), List.mem_of_getElem? (i := 690) (by decide +kernel), List.mem_of_getElem? (i := 691) (by decide +kernel)⟩
theorem lw_p39 : lw_okq (⟨"OvenNosesModel", "mayGo", "(I)Z"⟩, 17) := ⟨⟨by decide +kernel, by decide +kernel⟩, List.mem_of_getElem? (i := 546) (by decide +kernel), List.mem_of_getElem? (i := 702) (by decide +kernel), List.mem_of_getElem? (i := 703) (by decide +kernel)⟩
theorem lw_p40 : lw_okq (⟨"OvenNosesModel", "keeps", "()V"⟩, 17) := ⟨⟨by decide +kernel, by decide +kernel⟩, List.mem_of_getElem? (i := 546) (by decide +kernel), List.mem_of_getElem? (i := 706) (by decide +kernel), List.mem_of_getElem? (i := 707) (by decide +kernel)⟩
theorem lw_p41 : lw_okq (⟨"OvenNosesModel", "passes", "()I"⟩, 17) := ⟨⟨by decide +kernel, by decide +kernel⟩, List.mem_of_getElem? (i := 546) (by decide +kernel), List.mem_of_getElem? (i := 718) (by decide +kernel), List.mem_of_getElem? (i := 719) (by decide +kernel)⟩
theorem lw_p42 : lw_okq (⟨"OvenNosesModel", "holds", "()V"⟩, 17) := ⟨⟨by decide +kernel, by decide +kernel⟩, List.mem_of_getElem? (i := 546) (by decide +kernel), List.mem_of_getElem? (i := 738) (by decide +kernel), List.mem_of_getElem? (i := 739) (by decide +kernel)⟩
theorem lw_p43 : lw_okq (⟨"OvenNosesModel", "lets", "()V"⟩, 17) := ⟨⟨by decide +kernel, by decide +kernel⟩, List.mem_of_getElem? (i := 546) (by decide +kernel), List.mem_of_getElem? (i := 742) (by decide +kernel), List.mem_of_getElem? (i := 743) (by decide +kernel)⟩
theorem lw_p44 : lw_okq (⟨"OvenNosesModel", "reckons", "(IIII)V"⟩, 17) := ⟨⟨by decide +kernel, by decide +kernel⟩, List.mem_of_getElem? (i := 546) (by decide +kernel), List.mem_of_getElem? (i := 754) (by decide +kernel), List.mem_of_getElem? (i := 755) (by decide +kernel)⟩
theorem lw_p45 : lw_okq (⟨"OvenNosesModel", "doneBy", "(IIII)I"⟩, 17) := ⟨⟨by decide +kernel, by decide +kernel⟩, List.mem_of_getElem? (i := 546) (by decide +kernel), List.mem_of_getElem? (i := 758) (by decide +kernel), List.mem_of_getElem? (i := 759) (by decide +kernel)⟩
theorem lw_p46 : lw_okq (⟨"OvenNosesModel", "soonestOf", "(I)I"⟩, 17) := ⟨⟨by decide +kernel, by decide +kernel⟩, List.mem_of_getElem? (i := 546) (by decide +kernel), List.mem_of_getElem? (i := 762) (by decide +kernel), List.mem_of_getElem? (i := 763) (by decide +kernel)⟩
def lw_privs_3 : List (MethodName × Nat) := [(⟨"OvenNosesModel", "whereAll", "(I)I"⟩, 17), (⟨"OvenNosesModel", "hot", "(I)I"⟩, 17), (⟨"OvenNosesModel", "isShut", "(I)Z"⟩, 17), (⟨"OvenNosesModel", "isDough", "(I)Z"⟩, 17), (⟨"OvenNosesModel", "isOut", "(I)Z"⟩, 17), (⟨"OvenNosesModel", "noseOf", "(II)I"⟩, 17), (⟨"OvenNosesModel", "smellOf", "(II)I"⟩, 17), (⟨"OvenNosesModel", "mayGo", "(I)Z"⟩, 17), (⟨"OvenNosesModel", "keeps", "()V"⟩, 17), (⟨"OvenNosesModel", "passes", "()I"⟩, 17), (⟨"OvenNosesModel", "holds", "()V"⟩, 17), (⟨"OvenNosesModel", "lets", "()V"⟩, 17), (⟨"OvenNosesModel", "reckons", "(IIII)V"⟩, 17), (⟨"OvenNosesModel", "doneBy", "(IIII)I"⟩, 17), (⟨"OvenNosesModel", "soonestOf", "(I)I"⟩, 17)]
theorem lw_r3 : ∀ q ∈ lw_privs_3, lw_okq q := List.forall_mem_cons.mpr ⟨lw_p32, List.forall_mem_cons.mpr ⟨lw_p33, List.forall_mem_cons.mpr ⟨lw_p34, List.forall_mem_cons.mpr ⟨lw_p35, List.forall_mem_cons.mpr ⟨lw_p36, List.forall_mem_cons.mpr ⟨lw_p37, List.forall_mem_cons.mpr ⟨lw_p38, List.forall_mem_cons.mpr ⟨lw_p39, List.forall_mem_cons.mpr ⟨lw_p40, List.forall_mem_cons.mpr ⟨lw_p41, List.forall_mem_cons.mpr ⟨lw_p42, List.forall_mem_cons.mpr ⟨lw_p43, List.forall_mem_cons.mpr ⟨lw_p44, List.forall_mem_cons.mpr ⟨lw_p45, List.forall_mem_cons.mpr ⟨lw_p46, fun _ h => absurd h List.not_mem_nil⟩⟩⟩⟩⟩⟩⟩⟩⟩⟩⟩⟩⟩⟩⟩
def lw_privs : List (MethodName × Nat) := lw_privs_1 ++ (lw_privs_2 ++ (lw_privs_3))
def lw_tbl : List Cond := k2_sels lw_privs ++ tables_1
theorem lw_privs_ok : ∀ q ∈ lw_privs, lw_okq q := by
  show ∀ q ∈ lw_privs_1 ++ (lw_privs_2 ++ (lw_privs_3)), lw_okq q
  exact List.forall_mem_append.mpr ⟨lw_r1, List.forall_mem_append.mpr ⟨lw_r2, lw_r3⟩⟩
-- names (printed by the claim)
def RX0 : String := "OvenNoses$Course"
def TX0 : u_T := fun k => match k with
  | 0 => ("OvenNoses$Course", "rows", "[I", true)
  | _ => ("OvenNoses$Course", "knownSteps", "I", false)
def tyX0 : Nat → FieldType := fun k => match k with
  | 0 => .array .int
  | _ => .int
abbrev wsX00 : List Cond := u_ws RX0 TX0 2
theorem nmX0 : ∀ a, a < 2 → ∀ b, b < 2 → a ≠ b → (TX0 a).2.1 ≠ (TX0 b).2.1 := by decide +kernel
theorem tyX0_ok : ∀ k, k < 2 → parseFieldDescriptor (TX0 k).2.2.1 = some (tyX0 k) := by decide +kernel
abbrev cX0_init : ByteArray := prog_2_method_1_code
def yX0_init : MethodName := ⟨RX0, "<init>", "()V"⟩
abbrev cX0_begin : ByteArray := prog_2_method_2_code
def yX0_begin : MethodName := ⟨RX0, "begin", "()V"⟩
abbrev cX0_copyAll : ByteArray := prog_2_method_3_code
def yX0_copyAll : MethodName := ⟨RX0, "copyAll", "(LOvenNoses$Course;)V"⟩
abbrev cX0_copyNow : ByteArray := prog_2_method_4_code
def yX0_copyNow : MethodName := ⟨RX0, "copyNow", "(LOvenNoses$Course;)V"⟩
abbrev cX0_remember : ByteArray := prog_2_method_5_code
def yX0_remember : MethodName := ⟨RX0, "remember", "()V"⟩
abbrev cX0_takeBack : ByteArray := prog_2_method_6_code
def yX0_takeBack : MethodName := ⟨RX0, "takeBack", "()Z"⟩
abbrev cX0_known : ByteArray := prog_2_method_7_code
def yX0_known : MethodName := ⟨RX0, "known", "()I"⟩
abbrev cX0_minute : ByteArray := prog_2_method_8_code
def yX0_minute : MethodName := ⟨RX0, "minute", "()I"⟩
abbrev cX0_shutBits : ByteArray := prog_2_method_9_code
def yX0_shutBits : MethodName := ⟨RX0, "shutBits", "()I"⟩
abbrev cX0_isShut : ByteArray := prog_2_method_10_code
def yX0_isShut : MethodName := ⟨RX0, "isShut", "(I)Z"⟩
abbrev cX0_turnDoor : ByteArray := prog_2_method_11_code
def yX0_turnDoor : MethodName := ⟨RX0, "turnDoor", "(I)V"⟩
abbrev cX0_place : ByteArray := prog_2_method_12_code
def yX0_place : MethodName := ⟨RX0, "place", "(I)I"⟩
abbrev cX0_baked : ByteArray := prog_2_method_13_code
def yX0_baked : MethodName := ⟨RX0, "baked", "(I)I"⟩
abbrev cX0_putIn : ByteArray := prog_2_method_14_code
def yX0_putIn : MethodName := ⟨RX0, "putIn", "(II)V"⟩
abbrev cX0_placedAt : ByteArray := prog_2_method_15_code
def yX0_placedAt : MethodName := ⟨RX0, "placedAt", "(LOvenNoses$Told;I)I"⟩
abbrev cX0_hot : ByteArray := prog_2_method_16_code
def yX0_hot : MethodName := ⟨RX0, "hot", "(LOvenNoses$Told;I)I"⟩
abbrev cX0_passMinute : ByteArray := prog_2_method_17_code
def yX0_passMinute : MethodName := ⟨RX0, "passMinute", "(LOvenNoses$Told;)V"⟩
abbrev cX0_base : ByteArray := prog_2_method_18_code
def yX0_base : MethodName := ⟨RX0, "base", "()I"⟩
abbrev cX0_isPlace : ByteArray := prog_2_method_19_code
def yX0_isPlace : MethodName := ⟨RX0, "isPlace", "(I)Z"⟩
def RX1 : String := "OvenNoses$RowSearch"
def TX1 : u_T := fun k => match k with
  | 0 => ("OvenNoses$RowSearch", "row", "[I", true)
  | 1 => ("OvenNoses$RowSearch", "best", "[I", true)
  | 2 => ("OvenNoses$RowSearch", "bakingTimes", "[I", true)
  | 3 => ("OvenNoses$RowSearch", "bestLength", "I", false)
  | 4 => ("OvenNoses$RowSearch", "bestLastEnd", "I", false)
  | _ => ("OvenNoses$RowSearch", "limit", "I", false)
def tyX1 : Nat → FieldType := fun k => match k with
  | 0 => .array .int
  | 1 => .array .int
  | 2 => .array .int
  | 3 => .int
  | 4 => .int
  | _ => .int
abbrev wsX10 : List Cond := u_ws RX1 TX1 6
theorem nmX1 : ∀ a, a < 6 → ∀ b, b < 6 → a ≠ b → (TX1 a).2.1 ≠ (TX1 b).2.1 := by decide +kernel
theorem tyX1_ok : ∀ k, k < 6 → parseFieldDescriptor (TX1 k).2.2.1 = some (tyX1 k) := by decide +kernel
abbrev cX1_init : ByteArray := prog_3_method_1_code
def yX1_init : MethodName := ⟨RX1, "<init>", "()V"⟩
abbrev cX1_find : ByteArray := prog_3_method_2_code
def yX1_find : MethodName := ⟨RX1, "find", "(LOvenNoses$Told;LOvenNoses$Course;II)V"⟩
abbrev cX1_bestCount : ByteArray := prog_3_method_3_code
def yX1_bestCount : MethodName := ⟨RX1, "bestCount", "()I"⟩
abbrev cX1_bestEnd : ByteArray := prog_3_method_4_code
def yX1_bestEnd : MethodName := ⟨RX1, "bestEnd", "()I"⟩
abbrev cX1_bestAt : ByteArray := prog_3_method_5_code
def yX1_bestAt : MethodName := ⟨RX1, "bestAt", "(I)I"⟩
abbrev cX1_extend : ByteArray := prog_3_method_6_code
def yX1_extend : MethodName := ⟨RX1, "extend", "(LOvenNoses$Told;III)V"⟩
abbrev cX1_weigh : ByteArray := prog_3_method_7_code
def yX1_weigh : MethodName := ⟨RX1, "weigh", "(II)V"⟩
def RX2 : String := "OvenNoses$Script"
def TX2 : u_T := fun k => match k with
  | 0 => ("OvenNoses$Script", "bytes", "[I", true)
  | 1 => ("OvenNoses$Script", "byteCount", "I", false)
  | 2 => ("OvenNoses$Script", "place", "I", false)
  | 3 => ("OvenNoses$Script", "token", "I", false)
  | 4 => ("OvenNoses$Script", "tokenStart", "I", false)
  | _ => ("OvenNoses$Script", "tokenValue", "I", false)
def tyX2 : Nat → FieldType := fun k => match k with
  | 0 => .array .int
  | 1 => .int
  | 2 => .int
  | 3 => .int
  | 4 => .int
  | _ => .int
abbrev wsX20 : List Cond := u_ws RX2 TX2 6
theorem nmX2 : ∀ a, a < 6 → ∀ b, b < 6 → a ≠ b → (TX2 a).2.1 ≠ (TX2 b).2.1 := by decide +kernel
theorem tyX2_ok : ∀ k, k < 6 → parseFieldDescriptor (TX2 k).2.2.1 = some (tyX2 k) := by decide +kernel
abbrev cX2_init : ByteArray := prog_4_method_1_code
def yX2_init : MethodName := ⟨RX2, "<init>", "()V"⟩
abbrev cX2_add : ByteArray := prog_4_method_2_code
def yX2_add : MethodName := ⟨RX2, "add", "(I)Z"⟩
abbrev cX2_length : ByteArray := prog_4_method_3_code
def yX2_length : MethodName := ⟨RX2, "length", "()I"⟩
abbrev cX2_empty : ByteArray := prog_4_method_4_code
def yX2_empty : MethodName := ⟨RX2, "empty", "()V"⟩
abbrev cX2_read : ByteArray := prog_4_method_5_code
def yX2_read : MethodName := ⟨RX2, "read", "(LOvenNoses$Told;)I"⟩
abbrev cX2_readItem : ByteArray := prog_4_method_6_code
def yX2_readItem : MethodName := ⟨RX2, "readItem", "(LOvenNoses$Told;)Z"⟩
abbrev cX2_readOvenNumbers : ByteArray := prog_4_method_7_code
def yX2_readOvenNumbers : MethodName := ⟨RX2, "readOvenNumbers", "(LOvenNoses$Told;)Z"⟩
abbrev cX2_readDoughNumbers : ByteArray := prog_4_method_8_code
def yX2_readDoughNumbers : MethodName := ⟨RX2, "readDoughNumbers", "(LOvenNoses$Told;)Z"⟩
abbrev cX2_isNumberWithin : ByteArray := prog_4_method_9_code
def yX2_isNumberWithin : MethodName := ⟨RX2, "isNumberWithin", "(II)Z"⟩
abbrev cX2_nextToken : ByteArray := prog_4_method_10_code
def yX2_nextToken : MethodName := ⟨RX2, "nextToken", "()V"⟩
abbrev cX2_takeLetters : ByteArray := prog_4_method_11_code
def yX2_takeLetters : MethodName := ⟨RX2, "takeLetters", "()V"⟩
abbrev cX2_takeNumber : ByteArray := prog_4_method_12_code
def yX2_takeNumber : MethodName := ⟨RX2, "takeNumber", "()V"⟩
abbrev cX2_isLetter : ByteArray := prog_4_method_13_code
def yX2_isLetter : MethodName := ⟨RX2, "isLetter", "(I)Z"⟩
abbrev cX2_isDigit : ByteArray := prog_4_method_14_code
def yX2_isDigit : MethodName := ⟨RX2, "isDigit", "(I)Z"⟩
def RX3 : String := "OvenNoses$Told"
def TX3 : u_T := fun k => match k with
  | 0 => ("OvenNoses$Told", "ovenNumbers", "[I", true)
  | 1 => ("OvenNoses$Told", "doughNumbers", "[I", true)
  | 2 => ("OvenNoses$Told", "ovenCount", "I", false)
  | _ => ("OvenNoses$Told", "doughCount", "I", false)
def tyX3 : Nat → FieldType := fun k => match k with
  | 0 => .array .int
  | 1 => .array .int
  | 2 => .int
  | _ => .int
abbrev wsX30 : List Cond := u_ws RX3 TX3 4
theorem nmX3 : ∀ a, a < 4 → ∀ b, b < 4 → a ≠ b → (TX3 a).2.1 ≠ (TX3 b).2.1 := by decide +kernel
theorem tyX3_ok : ∀ k, k < 4 → parseFieldDescriptor (TX3 k).2.2.1 = some (tyX3 k) := by decide +kernel
abbrev cX3_init : ByteArray := prog_5_method_1_code
def yX3_init : MethodName := ⟨RX3, "<init>", "()V"⟩
abbrev cX3_forgetAll : ByteArray := prog_5_method_2_code
def yX3_forgetAll : MethodName := ⟨RX3, "forgetAll", "()V"⟩
abbrev cX3_ovens : ByteArray := prog_5_method_3_code
def yX3_ovens : MethodName := ⟨RX3, "ovens", "()I"⟩
abbrev cX3_doughs : ByteArray := prog_5_method_4_code
def yX3_doughs : MethodName := ⟨RX3, "doughs", "()I"⟩
abbrev cX3_hasOven : ByteArray := prog_5_method_5_code
def yX3_hasOven : MethodName := ⟨RX3, "hasOven", "(I)Z"⟩
abbrev cX3_hasDough : ByteArray := prog_5_method_6_code
def yX3_hasDough : MethodName := ⟨RX3, "hasDough", "(I)Z"⟩
abbrev cX3_ofOven : ByteArray := prog_5_method_7_code
def yX3_ofOven : MethodName := ⟨RX3, "ofOven", "(II)I"⟩
abbrev cX3_ofDough : ByteArray := prog_5_method_8_code
def yX3_ofDough : MethodName := ⟨RX3, "ofDough", "(II)I"⟩
abbrev cX3_addOven : ByteArray := prog_5_method_9_code
def yX3_addOven : MethodName := ⟨RX3, "addOven", "()Z"⟩
abbrev cX3_addDough : ByteArray := prog_5_method_10_code
def yX3_addDough : MethodName := ⟨RX3, "addDough", "()Z"⟩
abbrev cX3_setOfLastOven : ByteArray := prog_5_method_11_code
def yX3_setOfLastOven : MethodName := ⟨RX3, "setOfLastOven", "(II)V"⟩
abbrev cX3_setOfLastDough : ByteArray := prog_5_method_12_code
def yX3_setOfLastDough : MethodName := ⟨RX3, "setOfLastDough", "(II)V"⟩
def RX4 : String := "OvenNoses"
def TX4 : u_T := fun k => match k with
  | 0 => ("OvenNoses", "script", "LOvenNoses$Script;", true)
  | 1 => ("OvenNoses", "told", "LOvenNoses$Told;", false)
  | 2 => ("OvenNoses", "draft", "LOvenNoses$Told;", false)
  | 3 => ("OvenNoses", "course", "LOvenNoses$Course;", true)
  | 4 => ("OvenNoses", "trial", "LOvenNoses$Course;", true)
  | 5 => ("OvenNoses", "imageZero", "LOvenNoses$Course;", true)
  | 6 => ("OvenNoses", "imageOne", "LOvenNoses$Course;", true)
  | 7 => ("OvenNoses", "keptImages", "I", false)
  | 8 => ("OvenNoses", "ledDoughs", "[I", true)
  | 9 => ("OvenNoses", "ledOvens", "[I", true)
  | 10 => ("OvenNoses", "ledCount", "I", false)
  | 11 => ("OvenNoses", "rowSearch", "LOvenNoses$RowSearch;", true)
  | _ => ("OvenNoses", "traceSum", "J", false)
def tyX4 : Nat → FieldType := fun k => match k with
  | 0 => .object "OvenNoses$Script"
  | 1 => .object "OvenNoses$Told"
  | 2 => .object "OvenNoses$Told"
  | 3 => .object "OvenNoses$Course"
  | 4 => .object "OvenNoses$Course"
  | 5 => .object "OvenNoses$Course"
  | 6 => .object "OvenNoses$Course"
  | 7 => .int
  | 8 => .array .int
  | 9 => .array .int
  | 10 => .int
  | 11 => .object "OvenNoses$RowSearch"
  | _ => .long
abbrev wsX40 : List Cond := u_ws RX4 TX4 13
theorem nmX4 : ∀ a, a < 13 → ∀ b, b < 13 → a ≠ b → (TX4 a).2.1 ≠ (TX4 b).2.1 := by decide +kernel
theorem tyX4_ok : ∀ k, k < 13 → parseFieldDescriptor (TX4 k).2.2.1 = some (tyX4 k) := by decide +kernel
abbrev cX4_init : ByteArray := prog_1_method_1_code
def yX4_init : MethodName := ⟨RX4, "<init>", "()V"⟩
abbrev cX4_type : ByteArray := prog_1_method_2_code
def yX4_type : MethodName := ⟨RX4, "type", "(I)I"⟩
abbrev cX4_clear : ByteArray := prog_1_method_3_code
def yX4_clear : MethodName := ⟨RX4, "clear", "()I"⟩
abbrev cX4_quarter : ByteArray := prog_1_method_4_code
def yX4_quarter : MethodName := ⟨RX4, "quarter", "()I"⟩
abbrev cX4_oven : ByteArray := prog_1_method_5_code
def yX4_oven : MethodName := ⟨RX4, "oven", "(II)I"⟩
abbrev cX4_dough : ByteArray := prog_1_method_6_code
def yX4_dough : MethodName := ⟨RX4, "dough", "(II)I"⟩
abbrev cX4_smell : ByteArray := prog_1_method_7_code
def yX4_smell : MethodName := ⟨RX4, "smell", "(II)I"⟩
abbrev cX4_follows : ByteArray := prog_1_method_8_code
def yX4_follows : MethodName := ⟨RX4, "follows", "(I)I"⟩
abbrev cX4_puts : ByteArray := prog_1_method_9_code
def yX4_puts : MethodName := ⟨RX4, "puts", "(II)I"⟩
abbrev cX4_minutes : ByteArray := prog_1_method_10_code
def yX4_minutes : MethodName := ⟨RX4, "minutes", "(I)I"⟩
abbrev cX4_shuts : ByteArray := prog_1_method_11_code
def yX4_shuts : MethodName := ⟨RX4, "shuts", "(II)I"⟩
abbrev cX4_undo : ByteArray := prog_1_method_12_code
def yX4_undo : MethodName := ⟨RX4, "undo", "()I"⟩
abbrev cX4_now : ByteArray := prog_1_method_13_code
def yX4_now : MethodName := ⟨RX4, "now", "(I)I"⟩
abbrev cX4_when : ByteArray := prog_1_method_14_code
def yX4_when : MethodName := ⟨RX4, "when", "(I)I"⟩
abbrev cX4_moved : ByteArray := prog_1_method_15_code
def yX4_moved : MethodName := ⟨RX4, "moved", "(I)I"⟩
abbrev cX4_order : ByteArray := prog_1_method_16_code
def yX4_order : MethodName := ⟨RX4, "order", "(III)I"⟩
abbrev cX4_fire : ByteArray := prog_1_method_17_code
def yX4_fire : MethodName := ⟨RX4, "fire", "(II)I"⟩
abbrev cX4_odds : ByteArray := prog_1_method_18_code
def yX4_odds : MethodName := ⟨RX4, "odds", "(IIII)I"⟩
abbrev cX4_led : ByteArray := prog_1_method_19_code
def yX4_led : MethodName := ⟨RX4, "led", "(II)I"⟩
abbrev cX4_forget : ByteArray := prog_1_method_20_code
def yX4_forget : MethodName := ⟨RX4, "forget", "()I"⟩
abbrev cX4_vanilla : ByteArray := prog_1_method_21_code
def yX4_vanilla : MethodName := ⟨RX4, "vanilla", "()I"⟩
abbrev cX4_mark : ByteArray := prog_1_method_22_code
def yX4_mark : MethodName := ⟨RX4, "mark", "(II)I"⟩
abbrev cX4_keep : ByteArray := prog_1_method_23_code
def yX4_keep : MethodName := ⟨RX4, "keep", "(I)I"⟩
abbrev cX4_back : ByteArray := prog_1_method_24_code
def yX4_back : MethodName := ⟨RX4, "back", "(I)I"⟩
abbrev cX4_count : ByteArray := prog_1_method_25_code
def yX4_count : MethodName := ⟨RX4, "count", "(I)I"⟩
abbrev cX4_trace : ByteArray := prog_1_method_26_code
def yX4_trace : MethodName := ⟨RX4, "trace", "()J"⟩
abbrev cX4_isOut : ByteArray := prog_1_method_27_code
def yX4_isOut : MethodName := ⟨RX4, "isOut", "(I)Z"⟩
abbrev cX4_mayGoIn : ByteArray := prog_1_method_28_code
def yX4_mayGoIn : MethodName := ⟨RX4, "mayGoIn", "(I)Z"⟩
abbrev cX4_outAndGoneSour : ByteArray := prog_1_method_29_code
def yX4_outAndGoneSour : MethodName := ⟨RX4, "outAndGoneSour", "()I"⟩
abbrev cX4_smellOf : ByteArray := prog_1_method_30_code
def yX4_smellOf : MethodName := ⟨RX4, "smellOf", "(III)I"⟩
abbrev cX4_liking : ByteArray := prog_1_method_31_code
def yX4_liking : MethodName := ⟨RX4, "liking", "(III)I"⟩
abbrev cX4_noseOf : ByteArray := prog_1_method_32_code
def yX4_noseOf : MethodName := ⟨RX4, "noseOf", "(II)I"⟩
abbrev cX4_rivalsOf : ByteArray := prog_1_method_33_code
def yX4_rivalsOf : MethodName := ⟨RX4, "rivalsOf", "(II)I"⟩
abbrev cX4_allLedWith : ByteArray := prog_1_method_34_code
def yX4_allLedWith : MethodName := ⟨RX4, "allLedWith", "(I)Z"⟩
abbrev cX4_imageCourse : ByteArray := prog_1_method_35_code
def yX4_imageCourse : MethodName := ⟨RX4, "imageCourse", "(I)LOvenNoses$Course;"⟩
abbrev cX4_dividedUp : ByteArray := prog_1_method_36_code
def yX4_dividedUp : MethodName := ⟨RX4, "dividedUp", "(II)I"⟩
abbrev cX4_commonDivisor : ByteArray := prog_1_method_37_code
def yX4_commonDivisor : MethodName := ⟨RX4, "commonDivisor", "(II)I"⟩
abbrev cX4_asDough : ByteArray := prog_1_method_38_code
def yX4_asDough : MethodName := ⟨RX4, "asDough", "(I)I"⟩
abbrev cX4_asCake : ByteArray := prog_1_method_39_code
def yX4_asCake : MethodName := ⟨RX4, "asCake", "(I)I"⟩
abbrev cX4_asHerring : ByteArray := prog_1_method_40_code
def yX4_asHerring : MethodName := ⟨RX4, "asHerring", "(I)I"⟩
abbrev cX4_asBride : ByteArray := prog_1_method_41_code
def yX4_asBride : MethodName := ⟨RX4, "asBride", "(I)I"⟩
abbrev cX4_asWidow : ByteArray := prog_1_method_42_code
def yX4_asWidow : MethodName := ⟨RX4, "asWidow", "(I)I"⟩
abbrev cX4_asSniff : ByteArray := prog_1_method_43_code
def yX4_asSniff : MethodName := ⟨RX4, "asSniff", "(I)I"⟩
def RX5 : String := "OvenNosesModel"
def TX5 : u_T := fun k => match k with
  | 0 => ("OvenNosesModel", "trace", "J", false)
  | 1 => ("OvenNosesModel", "text", "[I", true)
  | 2 => ("OvenNosesModel", "typed", "I", false)
  | 3 => ("OvenNosesModel", "told", "[I", true)
  | 4 => ("OvenNosesModel", "draft", "[I", true)
  | 5 => ("OvenNosesModel", "s", "[I", true)
  | 6 => ("OvenNosesModel", "images", "[I", true)
  | 7 => ("OvenNosesModel", "kept", "[Z", true)
  | 8 => ("OvenNosesModel", "notes", "[I", true)
  | 9 => ("OvenNosesModel", "noted", "I", false)
  | 10 => ("OvenNosesModel", "at", "I", false)
  | 11 => ("OvenNosesModel", "sort", "I", false)
  | 12 => ("OvenNosesModel", "start", "I", false)
  | 13 => ("OvenNosesModel", "value", "I", false)
  | 14 => ("OvenNosesModel", "vanillaIn", "I", false)
  | 15 => ("OvenNosesModel", "held", "[I", true)
  | _ => ("OvenNosesModel", "soonest", "[I", true)
def tyX5 : Nat → FieldType := fun k => match k with
  | 0 => .long
  | 1 => .array .int
  | 2 => .int
  | 3 => .array .int
  | 4 => .array .int
  | 5 => .array .int
  | 6 => .array .int
  | 7 => .array .boolean
  | 8 => .array .int
  | 9 => .int
  | 10 => .int
  | 11 => .int
  | 12 => .int
  | 13 => .int
  | 14 => .int
  | 15 => .array .int
  | _ => .array .int
abbrev wsX50 : List Cond := u_ws RX5 TX5 17
theorem nmX5 : ∀ a, a < 17 → ∀ b, b < 17 → a ≠ b → (TX5 a).2.1 ≠ (TX5 b).2.1 := by decide +kernel
theorem tyX5_ok : ∀ k, k < 17 → parseFieldDescriptor (TX5 k).2.2.1 = some (tyX5 k) := by decide +kernel
abbrev cX5_init : ByteArray := prog_7_method_1_code
def yX5_init : MethodName := ⟨RX5, "<init>", "()V"⟩
abbrev cX5_in : ByteArray := prog_7_method_3_code
def yX5_in : MethodName := ⟨RX5, "in", "(III)Z"⟩
abbrev cX5_isOven : ByteArray := prog_7_method_4_code
def yX5_isOven : MethodName := ⟨RX5, "isOven", "(I)Z"⟩
abbrev cX5_isDough : ByteArray := prog_7_method_5_code
def yX5_isDough : MethodName := ⟨RX5, "isDough", "(I)Z"⟩
abbrev cX5_isShut : ByteArray := prog_7_method_6_code
def yX5_isShut : MethodName := ⟨RX5, "isShut", "(I)Z"⟩
abbrev cX5_type : ByteArray := prog_7_method_7_code
def yX5_type : MethodName := ⟨RX5, "type", "(I)I"⟩
abbrev cX5_clear : ByteArray := prog_7_method_8_code
def yX5_clear : MethodName := ⟨RX5, "clear", "()I"⟩
abbrev cX5_letterAt : ByteArray := prog_7_method_9_code
def yX5_letterAt : MethodName := ⟨RX5, "letterAt", "(I)I"⟩
abbrev cX5_isLetter : ByteArray := prog_7_method_10_code
def yX5_isLetter : MethodName := ⟨RX5, "isLetter", "(I)Z"⟩
abbrev cX5_isDigit : ByteArray := prog_7_method_11_code
def yX5_isDigit : MethodName := ⟨RX5, "isDigit", "(I)Z"⟩
abbrev cX5_token : ByteArray := prog_7_method_12_code
def yX5_token : MethodName := ⟨RX5, "token", "()V"⟩
abbrev cX5_number : ByteArray := prog_7_method_13_code
def yX5_number : MethodName := ⟨RX5, "number", "(III)Z"⟩
abbrev cX5_readsItem : ByteArray := prog_7_method_14_code
def yX5_readsItem : MethodName := ⟨RX5, "readsItem", "()Z"⟩
abbrev cX5_reads : ByteArray := prog_7_method_15_code
def yX5_reads : MethodName := ⟨RX5, "reads", "()Z"⟩
abbrev cX5_begins : ByteArray := prog_7_method_16_code
def yX5_begins : MethodName := ⟨RX5, "begins", "()V"⟩
abbrev cX5_quarter : ByteArray := prog_7_method_17_code
def yX5_quarter : MethodName := ⟨RX5, "quarter", "()I"⟩
abbrev cX5_ones : ByteArray := prog_7_method_18_code
def yX5_ones : MethodName := ⟨RX5, "ones", "(I)I"⟩
abbrev cX5_whereAll : ByteArray := prog_7_method_19_code
def yX5_whereAll : MethodName := ⟨RX5, "whereAll", "(I)I"⟩
abbrev cX5_hot : ByteArray := prog_7_method_20_code
def yX5_hot : MethodName := ⟨RX5, "hot", "(I)I"⟩
abbrev cX5_oven : ByteArray := prog_7_method_21_code
def yX5_oven : MethodName := ⟨RX5, "oven", "(II)I"⟩
abbrev cX5_smellOf : ByteArray := prog_7_method_22_code
def yX5_smellOf : MethodName := ⟨RX5, "smellOf", "(II)I"⟩
abbrev cX5_noseOf : ByteArray := prog_7_method_23_code
def yX5_noseOf : MethodName := ⟨RX5, "noseOf", "(II)I"⟩
abbrev cX5_isOut : ByteArray := prog_7_method_24_code
def yX5_isOut : MethodName := ⟨RX5, "isOut", "(I)Z"⟩
abbrev cX5_dough : ByteArray := prog_7_method_25_code
def yX5_dough : MethodName := ⟨RX5, "dough", "(II)I"⟩
abbrev cX5_smell : ByteArray := prog_7_method_26_code
def yX5_smell : MethodName := ⟨RX5, "smell", "(II)I"⟩
abbrev cX5_keeps : ByteArray := prog_7_method_27_code
def yX5_keeps : MethodName := ⟨RX5, "keeps", "()V"⟩
abbrev cX5_mayGo : ByteArray := prog_7_method_28_code
def yX5_mayGo : MethodName := ⟨RX5, "mayGo", "(I)Z"⟩
abbrev cX5_follows : ByteArray := prog_7_method_29_code
def yX5_follows : MethodName := ⟨RX5, "follows", "(I)I"⟩
abbrev cX5_puts : ByteArray := prog_7_method_30_code
def yX5_puts : MethodName := ⟨RX5, "puts", "(II)I"⟩
abbrev cX5_passes : ByteArray := prog_7_method_31_code
def yX5_passes : MethodName := ⟨RX5, "passes", "()I"⟩
abbrev cX5_minutes : ByteArray := prog_7_method_32_code
def yX5_minutes : MethodName := ⟨RX5, "minutes", "(I)I"⟩
abbrev cX5_shuts : ByteArray := prog_7_method_33_code
def yX5_shuts : MethodName := ⟨RX5, "shuts", "(II)I"⟩
abbrev cX5_undo : ByteArray := prog_7_method_34_code
def yX5_undo : MethodName := ⟨RX5, "undo", "()I"⟩
abbrev cX5_now : ByteArray := prog_7_method_35_code
def yX5_now : MethodName := ⟨RX5, "now", "(I)I"⟩
abbrev cX5_holds : ByteArray := prog_7_method_36_code
def yX5_holds : MethodName := ⟨RX5, "holds", "()V"⟩
abbrev cX5_lets : ByteArray := prog_7_method_37_code
def yX5_lets : MethodName := ⟨RX5, "lets", "()V"⟩
abbrev cX5_when : ByteArray := prog_7_method_38_code
def yX5_when : MethodName := ⟨RX5, "when", "(I)I"⟩
abbrev cX5_moved : ByteArray := prog_7_method_39_code
def yX5_moved : MethodName := ⟨RX5, "moved", "(I)I"⟩
abbrev cX5_doneBy : ByteArray := prog_7_method_40_code
def yX5_doneBy : MethodName := ⟨RX5, "doneBy", "(IIII)I"⟩
abbrev cX5_reckons : ByteArray := prog_7_method_41_code
def yX5_reckons : MethodName := ⟨RX5, "reckons", "(IIII)V"⟩
abbrev cX5_soonestOf : ByteArray := prog_7_method_42_code
def yX5_soonestOf : MethodName := ⟨RX5, "soonestOf", "(I)I"⟩
abbrev cX5_order : ByteArray := prog_7_method_43_code
def yX5_order : MethodName := ⟨RX5, "order", "(III)I"⟩
abbrev cX5_fire : ByteArray := prog_7_method_44_code
def yX5_fire : MethodName := ⟨RX5, "fire", "(II)I"⟩
abbrev cX5_odds : ByteArray := prog_7_method_45_code
def yX5_odds : MethodName := ⟨RX5, "odds", "(IIII)I"⟩
abbrev cX5_led : ByteArray := prog_7_method_46_code
def yX5_led : MethodName := ⟨RX5, "led", "(II)I"⟩
abbrev cX5_forget : ByteArray := prog_7_method_47_code
def yX5_forget : MethodName := ⟨RX5, "forget", "()I"⟩
abbrev cX5_vanilla : ByteArray := prog_7_method_48_code
def yX5_vanilla : MethodName := ⟨RX5, "vanilla", "()I"⟩
abbrev cX5_mark : ByteArray := prog_7_method_49_code
def yX5_mark : MethodName := ⟨RX5, "mark", "(II)I"⟩
abbrev cX5_keep : ByteArray := prog_7_method_50_code
def yX5_keep : MethodName := ⟨RX5, "keep", "(I)I"⟩
abbrev cX5_back : ByteArray := prog_7_method_51_code
def yX5_back : MethodName := ⟨RX5, "back", "(I)I"⟩
abbrev cX5_count : ByteArray := prog_7_method_52_code
def yX5_count : MethodName := ⟨RX5, "count", "(I)I"⟩
abbrev cX5_trace : ByteArray := prog_7_method_53_code
def yX5_trace : MethodName := ⟨RX5, "trace", "()J"⟩
def RJ6 : String := "java/lang/Integer"
def TJ6 : u_T := fun k => match k with
  | _ => ("", "", "", false)
def tyJ6 : Nat → FieldType := fun k => match k with
  | _ => .int
abbrev wsJ60 : List Cond := u_ws RJ6 TJ6 0
theorem nmJ6 : ∀ a, a < 0 → ∀ b, b < 0 → a ≠ b → (TJ6 a).2.1 ≠ (TJ6 b).2.1 := by decide +kernel
theorem tyJ6_ok : ∀ k, k < 0 → parseFieldDescriptor (TJ6 k).2.2.1 = some (tyJ6 k) := by decide +kernel
abbrev cJ6_bitCount_0f7a4 : ByteArray := prog_8_method_49_code
def yJ6_bitCount_0f7a4 : MethodName := ⟨RJ6, "bitCount", "(I)I"⟩
def RJ9 : String := "java/lang/Math"
def TJ9 : u_T := fun k => match k with
  | _ => ("", "", "", false)
def tyJ9 : Nat → FieldType := fun k => match k with
  | _ => .int
abbrev wsJ90 : List Cond := u_ws RJ9 TJ9 0
theorem nmJ9 : ∀ a, a < 0 → ∀ b, b < 0 → a ≠ b → (TJ9 a).2.1 ≠ (TJ9 b).2.1 := by decide +kernel
theorem tyJ9_ok : ∀ k, k < 0 → parseFieldDescriptor (TJ9 k).2.2.1 = some (tyJ9 k) := by decide +kernel
abbrev cJ9_max_7cf53 : ByteArray := prog_9_method_65_code
def yJ9_max_7cf53 : MethodName := ⟨RJ9, "max", "(II)I"⟩
abbrev cJ9_min_7cf53 : ByteArray := prog_9_method_69_code
def yJ9_min_7cf53 : MethodName := ⟨RJ9, "min", "(II)I"⟩
def RJ10 : String := "java/lang/System"
def TJ10 : u_T := fun k => match k with
  | _ => ("", "", "", false)
def tyJ10 : Nat → FieldType := fun k => match k with
  | _ => .int
abbrev wsJ100 : List Cond := u_ws RJ10 TJ10 0
theorem nmJ10 : ∀ a, a < 0 → ∀ b, b < 0 → a ≠ b → (TJ10 a).2.1 ≠ (TJ10 b).2.1 := by decide +kernel
theorem tyJ10_ok : ∀ k, k < 0 → parseFieldDescriptor (TJ10 k).2.2.1 = some (tyJ10 k) := by decide +kernel
def RL : String := "OvenNosesLaw"
abbrev cL_law : ByteArray := code
def yL_law : MethodName := ⟨RL, "law", "([I)Z"⟩
-- the good words
def GG : List Cond := lw_tbl.filter goodWord
theorem GG_in {w : Cond} (h : w ∈ GG) : w ∈ lw_tbl := (List.mem_filter.mp h).1
theorem GG_good {w : Cond} (h : w ∈ GG) : goodWord w = true := (List.mem_filter.mp h).2
theorem in_places {ws : List Cond} (ps : List Nat) (hp : ws = ps.filterMap (fun i => lw_tbl[i]?)) (hg : ws.all goodWord = true) : ∀ w ∈ ws, w ∈ GG := by
  intro w hw
  refine List.mem_filter.mpr ⟨?_, List.all_eq_true.mp hg w hw⟩
  rw [hp] at hw
  obtain ⟨i, -, hi⟩ := List.mem_filterMap.mp hw
  exact List.mem_of_getElem? hi
theorem inX0 : ∀ w ∈ u_ws RX0 TX0 2, w ∈ GG := in_places [122, 124] (by decide +kernel) (by decide +kernel)
theorem inX1 : ∀ w ∈ u_ws RX1 TX1 6, w ∈ GG := in_places [139, 141, 143, 145, 147, 149] (by decide +kernel) (by decide +kernel)
theorem inX2 : ∀ w ∈ u_ws RX2 TX2 6, w ∈ GG := in_places [77, 79, 81, 83, 85, 87] (by decide +kernel) (by decide +kernel)
theorem inX3 : ∀ w ∈ u_ws RX3 TX3 4, w ∈ GG := in_places [101, 103, 105, 107] (by decide +kernel) (by decide +kernel)
theorem inX4 : ∀ w ∈ u_ws RX4 TX4 13, w ∈ GG := in_places [165, 167, 169, 171, 173, 175, 177, 179, 181, 183, 185, 187, 189] (by decide +kernel) (by decide +kernel)
theorem inX5 : ∀ w ∈ u_ws RX5 TX5 17, w ∈ GG := in_places [648, 650, 652, 654, 656, 658, 660, 662, 664, 666, 668, 670, 672, 674, 676, 678, 680] (by decide +kernel) (by decide +kernel)
theorem q0 : (.selects RX2 yX2_nextToken yX2_nextToken : Cond) ∈ GG := List.mem_filter.mpr ⟨List.mem_of_getElem? (i := 0) (by decide +kernel), by decide +kernel⟩
theorem q1 : (.selects RX2 yX2_takeLetters yX2_takeLetters : Cond) ∈ GG := List.mem_filter.mpr ⟨List.mem_of_getElem? (i := 1) (by decide +kernel), by decide +kernel⟩
theorem q2 : (.selects RX2 yX2_takeNumber yX2_takeNumber : Cond) ∈ GG := List.mem_filter.mpr ⟨List.mem_of_getElem? (i := 2) (by decide +kernel), by decide +kernel⟩
theorem q3 : (.selects RX2 yX2_readItem yX2_readItem : Cond) ∈ GG := List.mem_filter.mpr ⟨List.mem_of_getElem? (i := 3) (by decide +kernel), by decide +kernel⟩
theorem q4 : (.selects RX2 yX2_readOvenNumbers yX2_readOvenNumbers : Cond) ∈ GG := List.mem_filter.mpr ⟨List.mem_of_getElem? (i := 4) (by decide +kernel), by decide +kernel⟩
theorem q5 : (.selects RX2 yX2_isNumberWithin yX2_isNumberWithin : Cond) ∈ GG := List.mem_filter.mpr ⟨List.mem_of_getElem? (i := 5) (by decide +kernel), by decide +kernel⟩
theorem q6 : (.selects RX2 yX2_readDoughNumbers yX2_readDoughNumbers : Cond) ∈ GG := List.mem_filter.mpr ⟨List.mem_of_getElem? (i := 6) (by decide +kernel), by decide +kernel⟩
theorem q7 : (.selects RX0 yX0_base yX0_base : Cond) ∈ GG := List.mem_filter.mpr ⟨List.mem_of_getElem? (i := 7) (by decide +kernel), by decide +kernel⟩
theorem q8 : (.selects RX4 yX4_isOut yX4_isOut : Cond) ∈ GG := List.mem_filter.mpr ⟨List.mem_of_getElem? (i := 8) (by decide +kernel), by decide +kernel⟩
theorem q9 : (.selects RX4 yX4_noseOf yX4_noseOf : Cond) ∈ GG := List.mem_filter.mpr ⟨List.mem_of_getElem? (i := 9) (by decide +kernel), by decide +kernel⟩
theorem q10 : (.selects RX4 yX4_smellOf yX4_smellOf : Cond) ∈ GG := List.mem_filter.mpr ⟨List.mem_of_getElem? (i := 10) (by decide +kernel), by decide +kernel⟩
theorem q11 : (.selects RX4 yX4_liking yX4_liking : Cond) ∈ GG := List.mem_filter.mpr ⟨List.mem_of_getElem? (i := 11) (by decide +kernel), by decide +kernel⟩
theorem q12 : (.selects RX4 yX4_mayGoIn yX4_mayGoIn : Cond) ∈ GG := List.mem_filter.mpr ⟨List.mem_of_getElem? (i := 12) (by decide +kernel), by decide +kernel⟩
theorem q13 : (.selects RX4 yX4_outAndGoneSour yX4_outAndGoneSour : Cond) ∈ GG := List.mem_filter.mpr ⟨List.mem_of_getElem? (i := 13) (by decide +kernel), by decide +kernel⟩
theorem q14 : (.selects RX1 yX1_extend yX1_extend : Cond) ∈ GG := List.mem_filter.mpr ⟨List.mem_of_getElem? (i := 14) (by decide +kernel), by decide +kernel⟩
theorem q15 : (.selects RX1 yX1_weigh yX1_weigh : Cond) ∈ GG := List.mem_filter.mpr ⟨List.mem_of_getElem? (i := 15) (by decide +kernel), by decide +kernel⟩
theorem q16 : (.selects RX4 yX4_rivalsOf yX4_rivalsOf : Cond) ∈ GG := List.mem_filter.mpr ⟨List.mem_of_getElem? (i := 16) (by decide +kernel), by decide +kernel⟩
theorem q17 : (.selects RX4 yX4_allLedWith yX4_allLedWith : Cond) ∈ GG := List.mem_filter.mpr ⟨List.mem_of_getElem? (i := 17) (by decide +kernel), by decide +kernel⟩
theorem q18 : (.selects RX4 yX4_asDough yX4_asDough : Cond) ∈ GG := List.mem_filter.mpr ⟨List.mem_of_getElem? (i := 18) (by decide +kernel), by decide +kernel⟩
theorem q19 : (.selects RX4 yX4_asCake yX4_asCake : Cond) ∈ GG := List.mem_filter.mpr ⟨List.mem_of_getElem? (i := 19) (by decide +kernel), by decide +kernel⟩
theorem q20 : (.selects RX4 yX4_asHerring yX4_asHerring : Cond) ∈ GG := List.mem_filter.mpr ⟨List.mem_of_getElem? (i := 20) (by decide +kernel), by decide +kernel⟩
theorem q21 : (.selects RX4 yX4_asBride yX4_asBride : Cond) ∈ GG := List.mem_filter.mpr ⟨List.mem_of_getElem? (i := 21) (by decide +kernel), by decide +kernel⟩
theorem q22 : (.selects RX4 yX4_asWidow yX4_asWidow : Cond) ∈ GG := List.mem_filter.mpr ⟨List.mem_of_getElem? (i := 22) (by decide +kernel), by decide +kernel⟩
theorem q23 : (.selects RX4 yX4_asSniff yX4_asSniff : Cond) ∈ GG := List.mem_filter.mpr ⟨List.mem_of_getElem? (i := 23) (by decide +kernel), by decide +kernel⟩
theorem q24 : (.selects RX4 yX4_imageCourse yX4_imageCourse : Cond) ∈ GG := List.mem_filter.mpr ⟨List.mem_of_getElem? (i := 24) (by decide +kernel), by decide +kernel⟩
theorem q25 : (.selects RX5 yX5_reads yX5_reads : Cond) ∈ GG := List.mem_filter.mpr ⟨List.mem_of_getElem? (i := 25) (by decide +kernel), by decide +kernel⟩
theorem q26 : (.selects RX5 yX5_token yX5_token : Cond) ∈ GG := List.mem_filter.mpr ⟨List.mem_of_getElem? (i := 26) (by decide +kernel), by decide +kernel⟩
theorem q27 : (.selects RX5 yX5_letterAt yX5_letterAt : Cond) ∈ GG := List.mem_filter.mpr ⟨List.mem_of_getElem? (i := 27) (by decide +kernel), by decide +kernel⟩
theorem q28 : (.selects RX5 yX5_readsItem yX5_readsItem : Cond) ∈ GG := List.mem_filter.mpr ⟨List.mem_of_getElem? (i := 28) (by decide +kernel), by decide +kernel⟩
theorem q29 : (.selects RX5 yX5_number yX5_number : Cond) ∈ GG := List.mem_filter.mpr ⟨List.mem_of_getElem? (i := 29) (by decide +kernel), by decide +kernel⟩
theorem q30 : (.selects RX5 yX5_begins yX5_begins : Cond) ∈ GG := List.mem_filter.mpr ⟨List.mem_of_getElem? (i := 30) (by decide +kernel), by decide +kernel⟩
theorem q31 : (.selects RX5 yX5_isOven yX5_isOven : Cond) ∈ GG := List.mem_filter.mpr ⟨List.mem_of_getElem? (i := 31) (by decide +kernel), by decide +kernel⟩
theorem q32 : (.selects RX5 yX5_whereAll yX5_whereAll : Cond) ∈ GG := List.mem_filter.mpr ⟨List.mem_of_getElem? (i := 32) (by decide +kernel), by decide +kernel⟩
theorem q33 : (.selects RX5 yX5_hot yX5_hot : Cond) ∈ GG := List.mem_filter.mpr ⟨List.mem_of_getElem? (i := 33) (by decide +kernel), by decide +kernel⟩
theorem q34 : (.selects RX5 yX5_isShut yX5_isShut : Cond) ∈ GG := List.mem_filter.mpr ⟨List.mem_of_getElem? (i := 34) (by decide +kernel), by decide +kernel⟩
theorem q35 : (.selects RX5 yX5_isDough yX5_isDough : Cond) ∈ GG := List.mem_filter.mpr ⟨List.mem_of_getElem? (i := 35) (by decide +kernel), by decide +kernel⟩
theorem q36 : (.selects RX5 yX5_isOut yX5_isOut : Cond) ∈ GG := List.mem_filter.mpr ⟨List.mem_of_getElem? (i := 36) (by decide +kernel), by decide +kernel⟩
theorem q37 : (.selects RX5 yX5_noseOf yX5_noseOf : Cond) ∈ GG := List.mem_filter.mpr ⟨List.mem_of_getElem? (i := 37) (by decide +kernel), by decide +kernel⟩
theorem q38 : (.selects RX5 yX5_smellOf yX5_smellOf : Cond) ∈ GG := List.mem_filter.mpr ⟨List.mem_of_getElem? (i := 38) (by decide +kernel), by decide +kernel⟩
theorem q39 : (.selects RX5 yX5_mayGo yX5_mayGo : Cond) ∈ GG := List.mem_filter.mpr ⟨List.mem_of_getElem? (i := 39) (by decide +kernel), by decide +kernel⟩
theorem q40 : (.selects RX5 yX5_keeps yX5_keeps : Cond) ∈ GG := List.mem_filter.mpr ⟨List.mem_of_getElem? (i := 40) (by decide +kernel), by decide +kernel⟩
theorem q41 : (.selects RX5 yX5_passes yX5_passes : Cond) ∈ GG := List.mem_filter.mpr ⟨List.mem_of_getElem? (i := 41) (by decide +kernel), by decide +kernel⟩
theorem q42 : (.selects RX5 yX5_holds yX5_holds : Cond) ∈ GG := List.mem_filter.mpr ⟨List.mem_of_getElem? (i := 42) (by decide +kernel), by decide +kernel⟩
theorem q43 : (.selects RX5 yX5_lets yX5_lets : Cond) ∈ GG := List.mem_filter.mpr ⟨List.mem_of_getElem? (i := 43) (by decide +kernel), by decide +kernel⟩
theorem q44 : (.selects RX5 yX5_reckons yX5_reckons : Cond) ∈ GG := List.mem_filter.mpr ⟨List.mem_of_getElem? (i := 44) (by decide +kernel), by decide +kernel⟩
theorem q45 : (.selects RX5 yX5_doneBy yX5_doneBy : Cond) ∈ GG := List.mem_filter.mpr ⟨List.mem_of_getElem? (i := 45) (by decide +kernel), by decide +kernel⟩
theorem q46 : (.selects RX5 yX5_soonestOf yX5_soonestOf : Cond) ∈ GG := List.mem_filter.mpr ⟨List.mem_of_getElem? (i := 46) (by decide +kernel), by decide +kernel⟩
theorem q47 : (.initialized RL : Cond) ∈ GG := List.mem_filter.mpr ⟨List.mem_of_getElem? (i := 47) (by decide +kernel), by decide +kernel⟩
theorem q48 : (.initialized RX4 : Cond) ∈ GG := List.mem_filter.mpr ⟨List.mem_of_getElem? (i := 48) (by decide +kernel), by decide +kernel⟩
theorem q49 : (.initialized RX2 : Cond) ∈ GG := List.mem_filter.mpr ⟨List.mem_of_getElem? (i := 49) (by decide +kernel), by decide +kernel⟩
theorem q50 : (.initialized RX3 : Cond) ∈ GG := List.mem_filter.mpr ⟨List.mem_of_getElem? (i := 50) (by decide +kernel), by decide +kernel⟩
theorem q51 : (.initialized RX0 : Cond) ∈ GG := List.mem_filter.mpr ⟨List.mem_of_getElem? (i := 51) (by decide +kernel), by decide +kernel⟩
theorem q52 : (.initialized RX1 : Cond) ∈ GG := List.mem_filter.mpr ⟨List.mem_of_getElem? (i := 52) (by decide +kernel), by decide +kernel⟩
theorem q53 : (.initialized RX5 : Cond) ∈ GG := List.mem_filter.mpr ⟨List.mem_of_getElem? (i := 53) (by decide +kernel), by decide +kernel⟩
theorem q54 : (.initialized RJ9 : Cond) ∈ GG := List.mem_filter.mpr ⟨List.mem_of_getElem? (i := 54) (by decide +kernel), by decide +kernel⟩
theorem q55 : (.initialized RJ6 : Cond) ∈ GG := List.mem_filter.mpr ⟨List.mem_of_getElem? (i := 55) (by decide +kernel), by decide +kernel⟩
theorem q56 : (.initialized RJ10 : Cond) ∈ GG := List.mem_filter.mpr ⟨List.mem_of_getElem? (i := 56) (by decide +kernel), by decide +kernel⟩
theorem q57 : (.classLink RL 7 RX4 : Cond) ∈ GG := List.mem_filter.mpr ⟨List.mem_of_getElem? (i := 57) (by decide +kernel), by decide +kernel⟩
theorem q58 : (.instantiable RX4 13 : Cond) ∈ GG := List.mem_filter.mpr ⟨List.mem_of_getElem? (i := 58) (by decide +kernel), by decide +kernel⟩
theorem q59 : (.methodLink RL 9 yX4_init : Cond) ∈ GG := List.mem_filter.mpr ⟨List.mem_of_getElem? (i := 59) (by decide +kernel), by decide +kernel⟩
theorem q60 : (.instanceMethod yX4_init : Cond) ∈ GG := List.mem_filter.mpr ⟨List.mem_of_getElem? (i := 60) (by decide +kernel), by decide +kernel⟩
theorem q61 : (.code yX4_init cX4_init 1 none : Cond) ∈ GG := List.mem_filter.mpr ⟨List.mem_of_getElem? (i := 61) (by decide +kernel), by decide +kernel⟩
theorem q62 : (.methodLink RX4 3 objectInit : Cond) ∈ GG := List.mem_filter.mpr ⟨List.mem_of_getElem? (i := 62) (by decide +kernel), by decide +kernel⟩
theorem q63 : (.instanceMethod objectInit : Cond) ∈ GG := List.mem_filter.mpr ⟨List.mem_of_getElem? (i := 63) (by decide +kernel), by decide +kernel⟩
theorem q64 : (.code objectInit ⟨#[0xb1]⟩ 1 none : Cond) ∈ GG := List.mem_filter.mpr ⟨List.mem_of_getElem? (i := 64) (by decide +kernel), by decide +kernel⟩
theorem q65 : (.classLink RX4 9 RX2 : Cond) ∈ GG := List.mem_filter.mpr ⟨List.mem_of_getElem? (i := 65) (by decide +kernel), by decide +kernel⟩
theorem q66 : (.instantiable RX2 6 : Cond) ∈ GG := List.mem_filter.mpr ⟨List.mem_of_getElem? (i := 66) (by decide +kernel), by decide +kernel⟩
theorem q67 : (.methodLink RX4 11 yX2_init : Cond) ∈ GG := List.mem_filter.mpr ⟨List.mem_of_getElem? (i := 67) (by decide +kernel), by decide +kernel⟩
theorem q68 : (.instanceMethod yX2_init : Cond) ∈ GG := List.mem_filter.mpr ⟨List.mem_of_getElem? (i := 68) (by decide +kernel), by decide +kernel⟩
theorem q69 : (.code yX2_init cX2_init 1 none : Cond) ∈ GG := List.mem_filter.mpr ⟨List.mem_of_getElem? (i := 69) (by decide +kernel), by decide +kernel⟩
theorem q70 : (.methodLink RX2 3 objectInit : Cond) ∈ GG := List.mem_filter.mpr ⟨List.mem_of_getElem? (i := 70) (by decide +kernel), by decide +kernel⟩
theorem q71 : (.fieldLink RX2 11 RX2 "bytes" "[I" : Cond) ∈ GG := List.mem_filter.mpr ⟨List.mem_of_getElem? (i := 71) (by decide +kernel), by decide +kernel⟩
theorem q72 : (.fieldLink RX2 15 RX2 "byteCount" "I" : Cond) ∈ GG := List.mem_filter.mpr ⟨List.mem_of_getElem? (i := 72) (by decide +kernel), by decide +kernel⟩
theorem q73 : (.fieldLink RX2 19 RX2 "place" "I" : Cond) ∈ GG := List.mem_filter.mpr ⟨List.mem_of_getElem? (i := 73) (by decide +kernel), by decide +kernel⟩
theorem q74 : (.fieldLink RX2 30 RX2 "token" "I" : Cond) ∈ GG := List.mem_filter.mpr ⟨List.mem_of_getElem? (i := 74) (by decide +kernel), by decide +kernel⟩
theorem q75 : (.fieldLink RX2 37 RX2 "tokenStart" "I" : Cond) ∈ GG := List.mem_filter.mpr ⟨List.mem_of_getElem? (i := 75) (by decide +kernel), by decide +kernel⟩
theorem q76 : (.fieldLink RX2 40 RX2 "tokenValue" "I" : Cond) ∈ GG := List.mem_filter.mpr ⟨List.mem_of_getElem? (i := 76) (by decide +kernel), by decide +kernel⟩
theorem q90 : (.arrayClass .int : Cond) ∈ GG := List.mem_filter.mpr ⟨List.mem_of_getElem? (i := 90) (by decide +kernel), by decide +kernel⟩
theorem q91 : (.classLink RX4 16 RX3 : Cond) ∈ GG := List.mem_filter.mpr ⟨List.mem_of_getElem? (i := 91) (by decide +kernel), by decide +kernel⟩
theorem q92 : (.instantiable RX3 4 : Cond) ∈ GG := List.mem_filter.mpr ⟨List.mem_of_getElem? (i := 92) (by decide +kernel), by decide +kernel⟩
theorem q93 : (.methodLink RX4 18 yX3_init : Cond) ∈ GG := List.mem_filter.mpr ⟨List.mem_of_getElem? (i := 93) (by decide +kernel), by decide +kernel⟩
theorem q94 : (.instanceMethod yX3_init : Cond) ∈ GG := List.mem_filter.mpr ⟨List.mem_of_getElem? (i := 94) (by decide +kernel), by decide +kernel⟩
theorem q95 : (.code yX3_init cX3_init 1 none : Cond) ∈ GG := List.mem_filter.mpr ⟨List.mem_of_getElem? (i := 95) (by decide +kernel), by decide +kernel⟩
theorem q96 : (.methodLink RX3 3 objectInit : Cond) ∈ GG := List.mem_filter.mpr ⟨List.mem_of_getElem? (i := 96) (by decide +kernel), by decide +kernel⟩
theorem q97 : (.fieldLink RX3 9 RX3 "ovenNumbers" "[I" : Cond) ∈ GG := List.mem_filter.mpr ⟨List.mem_of_getElem? (i := 97) (by decide +kernel), by decide +kernel⟩
theorem q98 : (.fieldLink RX3 15 RX3 "doughNumbers" "[I" : Cond) ∈ GG := List.mem_filter.mpr ⟨List.mem_of_getElem? (i := 98) (by decide +kernel), by decide +kernel⟩
theorem q99 : (.fieldLink RX3 18 RX3 "ovenCount" "I" : Cond) ∈ GG := List.mem_filter.mpr ⟨List.mem_of_getElem? (i := 99) (by decide +kernel), by decide +kernel⟩
theorem q100 : (.fieldLink RX3 22 RX3 "doughCount" "I" : Cond) ∈ GG := List.mem_filter.mpr ⟨List.mem_of_getElem? (i := 100) (by decide +kernel), by decide +kernel⟩
theorem q110 : (.classLink RX4 26 RX0 : Cond) ∈ GG := List.mem_filter.mpr ⟨List.mem_of_getElem? (i := 110) (by decide +kernel), by decide +kernel⟩
theorem q111 : (.instantiable RX0 2 : Cond) ∈ GG := List.mem_filter.mpr ⟨List.mem_of_getElem? (i := 111) (by decide +kernel), by decide +kernel⟩
theorem q112 : (.methodLink RX4 28 yX0_init : Cond) ∈ GG := List.mem_filter.mpr ⟨List.mem_of_getElem? (i := 112) (by decide +kernel), by decide +kernel⟩
theorem q113 : (.instanceMethod yX0_init : Cond) ∈ GG := List.mem_filter.mpr ⟨List.mem_of_getElem? (i := 113) (by decide +kernel), by decide +kernel⟩
theorem q114 : (.code yX0_init cX0_init 1 none : Cond) ∈ GG := List.mem_filter.mpr ⟨List.mem_of_getElem? (i := 114) (by decide +kernel), by decide +kernel⟩
theorem q115 : (.methodLink RX0 5 objectInit : Cond) ∈ GG := List.mem_filter.mpr ⟨List.mem_of_getElem? (i := 115) (by decide +kernel), by decide +kernel⟩
theorem q116 : (.methodLink RX0 15 yX0_begin : Cond) ∈ GG := List.mem_filter.mpr ⟨List.mem_of_getElem? (i := 116) (by decide +kernel), by decide +kernel⟩
theorem q117 : (.instanceMethod yX0_begin : Cond) ∈ GG := List.mem_filter.mpr ⟨List.mem_of_getElem? (i := 117) (by decide +kernel), by decide +kernel⟩
theorem q118 : (.selects RX0 yX0_begin yX0_begin : Cond) ∈ GG := List.mem_filter.mpr ⟨List.mem_of_getElem? (i := 118) (by decide +kernel), by decide +kernel⟩
theorem q119 : (.code yX0_begin cX0_begin 2 none : Cond) ∈ GG := List.mem_filter.mpr ⟨List.mem_of_getElem? (i := 119) (by decide +kernel), by decide +kernel⟩
theorem q120 : (.fieldLink RX0 11 RX0 "rows" "[I" : Cond) ∈ GG := List.mem_filter.mpr ⟨List.mem_of_getElem? (i := 120) (by decide +kernel), by decide +kernel⟩
theorem q121 : (.fieldLink RX0 18 RX0 "knownSteps" "I" : Cond) ∈ GG := List.mem_filter.mpr ⟨List.mem_of_getElem? (i := 121) (by decide +kernel), by decide +kernel⟩
theorem q127 : (.classLink RX4 49 RX1 : Cond) ∈ GG := List.mem_filter.mpr ⟨List.mem_of_getElem? (i := 127) (by decide +kernel), by decide +kernel⟩
theorem q128 : (.instantiable RX1 6 : Cond) ∈ GG := List.mem_filter.mpr ⟨List.mem_of_getElem? (i := 128) (by decide +kernel), by decide +kernel⟩
theorem q129 : (.methodLink RX4 51 yX1_init : Cond) ∈ GG := List.mem_filter.mpr ⟨List.mem_of_getElem? (i := 129) (by decide +kernel), by decide +kernel⟩
theorem q130 : (.instanceMethod yX1_init : Cond) ∈ GG := List.mem_filter.mpr ⟨List.mem_of_getElem? (i := 130) (by decide +kernel), by decide +kernel⟩
theorem q131 : (.code yX1_init cX1_init 1 none : Cond) ∈ GG := List.mem_filter.mpr ⟨List.mem_of_getElem? (i := 131) (by decide +kernel), by decide +kernel⟩
theorem q132 : (.methodLink RX1 3 objectInit : Cond) ∈ GG := List.mem_filter.mpr ⟨List.mem_of_getElem? (i := 132) (by decide +kernel), by decide +kernel⟩
theorem q133 : (.fieldLink RX1 9 RX1 "row" "[I" : Cond) ∈ GG := List.mem_filter.mpr ⟨List.mem_of_getElem? (i := 133) (by decide +kernel), by decide +kernel⟩
theorem q134 : (.fieldLink RX1 15 RX1 "best" "[I" : Cond) ∈ GG := List.mem_filter.mpr ⟨List.mem_of_getElem? (i := 134) (by decide +kernel), by decide +kernel⟩
theorem q135 : (.fieldLink RX1 18 RX1 "bakingTimes" "[I" : Cond) ∈ GG := List.mem_filter.mpr ⟨List.mem_of_getElem? (i := 135) (by decide +kernel), by decide +kernel⟩
theorem q136 : (.fieldLink RX1 21 RX1 "bestLength" "I" : Cond) ∈ GG := List.mem_filter.mpr ⟨List.mem_of_getElem? (i := 136) (by decide +kernel), by decide +kernel⟩
theorem q137 : (.fieldLink RX1 31 RX1 "bestLastEnd" "I" : Cond) ∈ GG := List.mem_filter.mpr ⟨List.mem_of_getElem? (i := 137) (by decide +kernel), by decide +kernel⟩
theorem q138 : (.fieldLink RX1 34 RX1 "limit" "I" : Cond) ∈ GG := List.mem_filter.mpr ⟨List.mem_of_getElem? (i := 138) (by decide +kernel), by decide +kernel⟩
theorem q152 : (.fieldLink RX4 12 RX4 "script" "LOvenNoses$Script;" : Cond) ∈ GG := List.mem_filter.mpr ⟨List.mem_of_getElem? (i := 152) (by decide +kernel), by decide +kernel⟩
theorem q153 : (.fieldLink RX4 19 RX4 "told" "LOvenNoses$Told;" : Cond) ∈ GG := List.mem_filter.mpr ⟨List.mem_of_getElem? (i := 153) (by decide +kernel), by decide +kernel⟩
theorem q154 : (.fieldLink RX4 23 RX4 "draft" "LOvenNoses$Told;" : Cond) ∈ GG := List.mem_filter.mpr ⟨List.mem_of_getElem? (i := 154) (by decide +kernel), by decide +kernel⟩
theorem q155 : (.fieldLink RX4 29 RX4 "course" "LOvenNoses$Course;" : Cond) ∈ GG := List.mem_filter.mpr ⟨List.mem_of_getElem? (i := 155) (by decide +kernel), by decide +kernel⟩
theorem q156 : (.fieldLink RX4 33 RX4 "trial" "LOvenNoses$Course;" : Cond) ∈ GG := List.mem_filter.mpr ⟨List.mem_of_getElem? (i := 156) (by decide +kernel), by decide +kernel⟩
theorem q157 : (.fieldLink RX4 36 RX4 "imageZero" "LOvenNoses$Course;" : Cond) ∈ GG := List.mem_filter.mpr ⟨List.mem_of_getElem? (i := 157) (by decide +kernel), by decide +kernel⟩
theorem q158 : (.fieldLink RX4 39 RX4 "imageOne" "LOvenNoses$Course;" : Cond) ∈ GG := List.mem_filter.mpr ⟨List.mem_of_getElem? (i := 158) (by decide +kernel), by decide +kernel⟩
theorem q159 : (.fieldLink RX4 74 RX4 "keptImages" "I" : Cond) ∈ GG := List.mem_filter.mpr ⟨List.mem_of_getElem? (i := 159) (by decide +kernel), by decide +kernel⟩
theorem q160 : (.fieldLink RX4 42 RX4 "ledDoughs" "[I" : Cond) ∈ GG := List.mem_filter.mpr ⟨List.mem_of_getElem? (i := 160) (by decide +kernel), by decide +kernel⟩
theorem q161 : (.fieldLink RX4 46 RX4 "ledOvens" "[I" : Cond) ∈ GG := List.mem_filter.mpr ⟨List.mem_of_getElem? (i := 161) (by decide +kernel), by decide +kernel⟩
theorem q162 : (.fieldLink RX4 78 RX4 "ledCount" "I" : Cond) ∈ GG := List.mem_filter.mpr ⟨List.mem_of_getElem? (i := 162) (by decide +kernel), by decide +kernel⟩
theorem q163 : (.fieldLink RX4 52 RX4 "rowSearch" "LOvenNoses$RowSearch;" : Cond) ∈ GG := List.mem_filter.mpr ⟨List.mem_of_getElem? (i := 163) (by decide +kernel), by decide +kernel⟩
theorem q164 : (.fieldLink RX4 221 RX4 "traceSum" "J" : Cond) ∈ GG := List.mem_filter.mpr ⟨List.mem_of_getElem? (i := 164) (by decide +kernel), by decide +kernel⟩
theorem q192 : (.methodLink RL 13 yX4_type : Cond) ∈ GG := List.mem_filter.mpr ⟨List.mem_of_getElem? (i := 192) (by decide +kernel), by decide +kernel⟩
theorem q193 : (.instanceMethod yX4_type : Cond) ∈ GG := List.mem_filter.mpr ⟨List.mem_of_getElem? (i := 193) (by decide +kernel), by decide +kernel⟩
theorem q194 : (.selects RX4 yX4_type yX4_type : Cond) ∈ GG := List.mem_filter.mpr ⟨List.mem_of_getElem? (i := 194) (by decide +kernel), by decide +kernel⟩
theorem q195 : (.code yX4_type cX4_type 2 (some .int) : Cond) ∈ GG := List.mem_filter.mpr ⟨List.mem_of_getElem? (i := 195) (by decide +kernel), by decide +kernel⟩
theorem q196 : (.methodLink RX4 56 yX2_add : Cond) ∈ GG := List.mem_filter.mpr ⟨List.mem_of_getElem? (i := 196) (by decide +kernel), by decide +kernel⟩
theorem q197 : (.instanceMethod yX2_add : Cond) ∈ GG := List.mem_filter.mpr ⟨List.mem_of_getElem? (i := 197) (by decide +kernel), by decide +kernel⟩
theorem q198 : (.selects RX2 yX2_add yX2_add : Cond) ∈ GG := List.mem_filter.mpr ⟨List.mem_of_getElem? (i := 198) (by decide +kernel), by decide +kernel⟩
theorem q199 : (.code yX2_add cX2_add 2 (some .boolean) : Cond) ∈ GG := List.mem_filter.mpr ⟨List.mem_of_getElem? (i := 199) (by decide +kernel), by decide +kernel⟩
theorem q200 : (.methodLink RX4 60 yX2_length : Cond) ∈ GG := List.mem_filter.mpr ⟨List.mem_of_getElem? (i := 200) (by decide +kernel), by decide +kernel⟩
theorem q201 : (.instanceMethod yX2_length : Cond) ∈ GG := List.mem_filter.mpr ⟨List.mem_of_getElem? (i := 201) (by decide +kernel), by decide +kernel⟩
theorem q202 : (.selects RX2 yX2_length yX2_length : Cond) ∈ GG := List.mem_filter.mpr ⟨List.mem_of_getElem? (i := 202) (by decide +kernel), by decide +kernel⟩
theorem q203 : (.code yX2_length cX2_length 1 (some .int) : Cond) ∈ GG := List.mem_filter.mpr ⟨List.mem_of_getElem? (i := 203) (by decide +kernel), by decide +kernel⟩
theorem q204 : (.methodLink RL 18 yX4_clear : Cond) ∈ GG := List.mem_filter.mpr ⟨List.mem_of_getElem? (i := 204) (by decide +kernel), by decide +kernel⟩
theorem q205 : (.instanceMethod yX4_clear : Cond) ∈ GG := List.mem_filter.mpr ⟨List.mem_of_getElem? (i := 205) (by decide +kernel), by decide +kernel⟩
theorem q206 : (.selects RX4 yX4_clear yX4_clear : Cond) ∈ GG := List.mem_filter.mpr ⟨List.mem_of_getElem? (i := 206) (by decide +kernel), by decide +kernel⟩
theorem q207 : (.code yX4_clear cX4_clear 2 (some .int) : Cond) ∈ GG := List.mem_filter.mpr ⟨List.mem_of_getElem? (i := 207) (by decide +kernel), by decide +kernel⟩
theorem q208 : (.methodLink RX4 64 yX2_empty : Cond) ∈ GG := List.mem_filter.mpr ⟨List.mem_of_getElem? (i := 208) (by decide +kernel), by decide +kernel⟩
theorem q209 : (.instanceMethod yX2_empty : Cond) ∈ GG := List.mem_filter.mpr ⟨List.mem_of_getElem? (i := 209) (by decide +kernel), by decide +kernel⟩
theorem q210 : (.selects RX2 yX2_empty yX2_empty : Cond) ∈ GG := List.mem_filter.mpr ⟨List.mem_of_getElem? (i := 210) (by decide +kernel), by decide +kernel⟩
theorem q211 : (.code yX2_empty cX2_empty 1 none : Cond) ∈ GG := List.mem_filter.mpr ⟨List.mem_of_getElem? (i := 211) (by decide +kernel), by decide +kernel⟩
theorem q212 : (.methodLink RL 23 yX4_quarter : Cond) ∈ GG := List.mem_filter.mpr ⟨List.mem_of_getElem? (i := 212) (by decide +kernel), by decide +kernel⟩
theorem q213 : (.instanceMethod yX4_quarter : Cond) ∈ GG := List.mem_filter.mpr ⟨List.mem_of_getElem? (i := 213) (by decide +kernel), by decide +kernel⟩
theorem q214 : (.selects RX4 yX4_quarter yX4_quarter : Cond) ∈ GG := List.mem_filter.mpr ⟨List.mem_of_getElem? (i := 214) (by decide +kernel), by decide +kernel⟩
theorem q215 : (.code yX4_quarter cX4_quarter 3 (some .int) : Cond) ∈ GG := List.mem_filter.mpr ⟨List.mem_of_getElem? (i := 215) (by decide +kernel), by decide +kernel⟩
theorem q216 : (.methodLink RX4 67 yX2_read : Cond) ∈ GG := List.mem_filter.mpr ⟨List.mem_of_getElem? (i := 216) (by decide +kernel), by decide +kernel⟩
theorem q217 : (.instanceMethod yX2_read : Cond) ∈ GG := List.mem_filter.mpr ⟨List.mem_of_getElem? (i := 217) (by decide +kernel), by decide +kernel⟩
theorem q218 : (.selects RX2 yX2_read yX2_read : Cond) ∈ GG := List.mem_filter.mpr ⟨List.mem_of_getElem? (i := 218) (by decide +kernel), by decide +kernel⟩
theorem q219 : (.code yX2_read cX2_read 3 (some .int) : Cond) ∈ GG := List.mem_filter.mpr ⟨List.mem_of_getElem? (i := 219) (by decide +kernel), by decide +kernel⟩
theorem q220 : (.methodLink RX2 22 yX3_forgetAll : Cond) ∈ GG := List.mem_filter.mpr ⟨List.mem_of_getElem? (i := 220) (by decide +kernel), by decide +kernel⟩
theorem q221 : (.instanceMethod yX3_forgetAll : Cond) ∈ GG := List.mem_filter.mpr ⟨List.mem_of_getElem? (i := 221) (by decide +kernel), by decide +kernel⟩
theorem q222 : (.selects RX3 yX3_forgetAll yX3_forgetAll : Cond) ∈ GG := List.mem_filter.mpr ⟨List.mem_of_getElem? (i := 222) (by decide +kernel), by decide +kernel⟩
theorem q223 : (.code yX3_forgetAll cX3_forgetAll 1 none : Cond) ∈ GG := List.mem_filter.mpr ⟨List.mem_of_getElem? (i := 223) (by decide +kernel), by decide +kernel⟩
theorem q224 : (.methodLink RX2 27 yX2_nextToken : Cond) ∈ GG := List.mem_filter.mpr ⟨List.mem_of_getElem? (i := 224) (by decide +kernel), by decide +kernel⟩
theorem q226 : (.instanceMethod yX2_nextToken : Cond) ∈ GG := List.mem_filter.mpr ⟨List.mem_of_getElem? (i := 226) (by decide +kernel), by decide +kernel⟩
theorem q227 : (.code yX2_nextToken cX2_nextToken 1 none : Cond) ∈ GG := List.mem_filter.mpr ⟨List.mem_of_getElem? (i := 227) (by decide +kernel), by decide +kernel⟩
theorem q228 : (.methodLink RX2 84 yX2_isLetter : Cond) ∈ GG := List.mem_filter.mpr ⟨List.mem_of_getElem? (i := 228) (by decide +kernel), by decide +kernel⟩
theorem q229 : (.static yX2_isLetter : Cond) ∈ GG := List.mem_filter.mpr ⟨List.mem_of_getElem? (i := 229) (by decide +kernel), by decide +kernel⟩
theorem q230 : (.code yX2_isLetter cX2_isLetter 1 (some .boolean) : Cond) ∈ GG := List.mem_filter.mpr ⟨List.mem_of_getElem? (i := 230) (by decide +kernel), by decide +kernel⟩
theorem q231 : (.methodLink RX2 88 yX2_takeLetters : Cond) ∈ GG := List.mem_filter.mpr ⟨List.mem_of_getElem? (i := 231) (by decide +kernel), by decide +kernel⟩
theorem q233 : (.instanceMethod yX2_takeLetters : Cond) ∈ GG := List.mem_filter.mpr ⟨List.mem_of_getElem? (i := 233) (by decide +kernel), by decide +kernel⟩
theorem q234 : (.code yX2_takeLetters cX2_takeLetters 1 none : Cond) ∈ GG := List.mem_filter.mpr ⟨List.mem_of_getElem? (i := 234) (by decide +kernel), by decide +kernel⟩
theorem q235 : (.methodLink RX2 91 yX2_isDigit : Cond) ∈ GG := List.mem_filter.mpr ⟨List.mem_of_getElem? (i := 235) (by decide +kernel), by decide +kernel⟩
theorem q236 : (.static yX2_isDigit : Cond) ∈ GG := List.mem_filter.mpr ⟨List.mem_of_getElem? (i := 236) (by decide +kernel), by decide +kernel⟩
theorem q237 : (.code yX2_isDigit cX2_isDigit 1 (some .boolean) : Cond) ∈ GG := List.mem_filter.mpr ⟨List.mem_of_getElem? (i := 237) (by decide +kernel), by decide +kernel⟩
theorem q238 : (.methodLink RX2 94 yX2_takeNumber : Cond) ∈ GG := List.mem_filter.mpr ⟨List.mem_of_getElem? (i := 238) (by decide +kernel), by decide +kernel⟩
theorem q240 : (.instanceMethod yX2_takeNumber : Cond) ∈ GG := List.mem_filter.mpr ⟨List.mem_of_getElem? (i := 240) (by decide +kernel), by decide +kernel⟩
theorem q241 : (.code yX2_takeNumber cX2_takeNumber 2 none : Cond) ∈ GG := List.mem_filter.mpr ⟨List.mem_of_getElem? (i := 241) (by decide +kernel), by decide +kernel⟩
theorem q242 : (.methodLink RX2 97 yJ9_min_7cf53 : Cond) ∈ GG := List.mem_filter.mpr ⟨List.mem_of_getElem? (i := 242) (by decide +kernel), by decide +kernel⟩
theorem q243 : (.static yJ9_min_7cf53 : Cond) ∈ GG := List.mem_filter.mpr ⟨List.mem_of_getElem? (i := 243) (by decide +kernel), by decide +kernel⟩
theorem q244 : (.code yJ9_min_7cf53 cJ9_min_7cf53 2 (some .int) : Cond) ∈ GG := List.mem_filter.mpr ⟨List.mem_of_getElem? (i := 244) (by decide +kernel), by decide +kernel⟩
theorem q245 : (.methodLink RX2 33 yX2_readItem : Cond) ∈ GG := List.mem_filter.mpr ⟨List.mem_of_getElem? (i := 245) (by decide +kernel), by decide +kernel⟩
theorem q247 : (.instanceMethod yX2_readItem : Cond) ∈ GG := List.mem_filter.mpr ⟨List.mem_of_getElem? (i := 247) (by decide +kernel), by decide +kernel⟩
theorem q248 : (.code yX2_readItem cX2_readItem 3 (some .boolean) : Cond) ∈ GG := List.mem_filter.mpr ⟨List.mem_of_getElem? (i := 248) (by decide +kernel), by decide +kernel⟩
theorem q249 : (.methodLink RX2 43 yX3_addOven : Cond) ∈ GG := List.mem_filter.mpr ⟨List.mem_of_getElem? (i := 249) (by decide +kernel), by decide +kernel⟩
theorem q250 : (.instanceMethod yX3_addOven : Cond) ∈ GG := List.mem_filter.mpr ⟨List.mem_of_getElem? (i := 250) (by decide +kernel), by decide +kernel⟩
theorem q251 : (.selects RX3 yX3_addOven yX3_addOven : Cond) ∈ GG := List.mem_filter.mpr ⟨List.mem_of_getElem? (i := 251) (by decide +kernel), by decide +kernel⟩
theorem q252 : (.code yX3_addOven cX3_addOven 1 (some .boolean) : Cond) ∈ GG := List.mem_filter.mpr ⟨List.mem_of_getElem? (i := 252) (by decide +kernel), by decide +kernel⟩
theorem q253 : (.methodLink RX2 47 yX2_readOvenNumbers : Cond) ∈ GG := List.mem_filter.mpr ⟨List.mem_of_getElem? (i := 253) (by decide +kernel), by decide +kernel⟩
theorem q255 : (.instanceMethod yX2_readOvenNumbers : Cond) ∈ GG := List.mem_filter.mpr ⟨List.mem_of_getElem? (i := 255) (by decide +kernel), by decide +kernel⟩
theorem q256 : (.code yX2_readOvenNumbers cX2_readOvenNumbers 3 (some .boolean) : Cond) ∈ GG := List.mem_filter.mpr ⟨List.mem_of_getElem? (i := 256) (by decide +kernel), by decide +kernel⟩
theorem q257 : (.fieldLink RX2 56 RX2 "OVEN_MOSTS" "[I" : Cond) ∈ GG := List.mem_filter.mpr ⟨List.mem_of_getElem? (i := 257) (by decide +kernel), by decide +kernel⟩
theorem q259 : (.methodLink RX2 59 yX2_isNumberWithin : Cond) ∈ GG := List.mem_filter.mpr ⟨List.mem_of_getElem? (i := 259) (by decide +kernel), by decide +kernel⟩
theorem q261 : (.instanceMethod yX2_isNumberWithin : Cond) ∈ GG := List.mem_filter.mpr ⟨List.mem_of_getElem? (i := 261) (by decide +kernel), by decide +kernel⟩
theorem q262 : (.code yX2_isNumberWithin cX2_isNumberWithin 3 (some .boolean) : Cond) ∈ GG := List.mem_filter.mpr ⟨List.mem_of_getElem? (i := 262) (by decide +kernel), by decide +kernel⟩
theorem q263 : (.methodLink RX2 63 yX3_setOfLastOven : Cond) ∈ GG := List.mem_filter.mpr ⟨List.mem_of_getElem? (i := 263) (by decide +kernel), by decide +kernel⟩
theorem q264 : (.instanceMethod yX3_setOfLastOven : Cond) ∈ GG := List.mem_filter.mpr ⟨List.mem_of_getElem? (i := 264) (by decide +kernel), by decide +kernel⟩
theorem q265 : (.selects RX3 yX3_setOfLastOven yX3_setOfLastOven : Cond) ∈ GG := List.mem_filter.mpr ⟨List.mem_of_getElem? (i := 265) (by decide +kernel), by decide +kernel⟩
theorem q266 : (.code yX3_setOfLastOven cX3_setOfLastOven 4 none : Cond) ∈ GG := List.mem_filter.mpr ⟨List.mem_of_getElem? (i := 266) (by decide +kernel), by decide +kernel⟩
theorem q267 : (.methodLink RX2 50 yX3_addDough : Cond) ∈ GG := List.mem_filter.mpr ⟨List.mem_of_getElem? (i := 267) (by decide +kernel), by decide +kernel⟩
theorem q268 : (.instanceMethod yX3_addDough : Cond) ∈ GG := List.mem_filter.mpr ⟨List.mem_of_getElem? (i := 268) (by decide +kernel), by decide +kernel⟩
theorem q269 : (.selects RX3 yX3_addDough yX3_addDough : Cond) ∈ GG := List.mem_filter.mpr ⟨List.mem_of_getElem? (i := 269) (by decide +kernel), by decide +kernel⟩
theorem q270 : (.code yX3_addDough cX3_addDough 1 (some .boolean) : Cond) ∈ GG := List.mem_filter.mpr ⟨List.mem_of_getElem? (i := 270) (by decide +kernel), by decide +kernel⟩
theorem q271 : (.methodLink RX2 53 yX2_readDoughNumbers : Cond) ∈ GG := List.mem_filter.mpr ⟨List.mem_of_getElem? (i := 271) (by decide +kernel), by decide +kernel⟩
theorem q273 : (.instanceMethod yX2_readDoughNumbers : Cond) ∈ GG := List.mem_filter.mpr ⟨List.mem_of_getElem? (i := 273) (by decide +kernel), by decide +kernel⟩
theorem q274 : (.code yX2_readDoughNumbers cX2_readDoughNumbers 4 (some .boolean) : Cond) ∈ GG := List.mem_filter.mpr ⟨List.mem_of_getElem? (i := 274) (by decide +kernel), by decide +kernel⟩
theorem q275 : (.methodLink RX2 67 yX3_doughs : Cond) ∈ GG := List.mem_filter.mpr ⟨List.mem_of_getElem? (i := 275) (by decide +kernel), by decide +kernel⟩
theorem q276 : (.instanceMethod yX3_doughs : Cond) ∈ GG := List.mem_filter.mpr ⟨List.mem_of_getElem? (i := 276) (by decide +kernel), by decide +kernel⟩
theorem q277 : (.selects RX3 yX3_doughs yX3_doughs : Cond) ∈ GG := List.mem_filter.mpr ⟨List.mem_of_getElem? (i := 277) (by decide +kernel), by decide +kernel⟩
theorem q278 : (.code yX3_doughs cX3_doughs 1 (some .int) : Cond) ∈ GG := List.mem_filter.mpr ⟨List.mem_of_getElem? (i := 278) (by decide +kernel), by decide +kernel⟩
theorem q279 : (.methodLink RX2 71 yX3_ofDough : Cond) ∈ GG := List.mem_filter.mpr ⟨List.mem_of_getElem? (i := 279) (by decide +kernel), by decide +kernel⟩
theorem q280 : (.instanceMethod yX3_ofDough : Cond) ∈ GG := List.mem_filter.mpr ⟨List.mem_of_getElem? (i := 280) (by decide +kernel), by decide +kernel⟩
theorem q281 : (.selects RX3 yX3_ofDough yX3_ofDough : Cond) ∈ GG := List.mem_filter.mpr ⟨List.mem_of_getElem? (i := 281) (by decide +kernel), by decide +kernel⟩
theorem q282 : (.code yX3_ofDough cX3_ofDough 4 (some .int) : Cond) ∈ GG := List.mem_filter.mpr ⟨List.mem_of_getElem? (i := 282) (by decide +kernel), by decide +kernel⟩
theorem q283 : (.methodLink RX3 29 yX3_hasDough : Cond) ∈ GG := List.mem_filter.mpr ⟨List.mem_of_getElem? (i := 283) (by decide +kernel), by decide +kernel⟩
theorem q284 : (.instanceMethod yX3_hasDough : Cond) ∈ GG := List.mem_filter.mpr ⟨List.mem_of_getElem? (i := 284) (by decide +kernel), by decide +kernel⟩
theorem q285 : (.selects RX3 yX3_hasDough yX3_hasDough : Cond) ∈ GG := List.mem_filter.mpr ⟨List.mem_of_getElem? (i := 285) (by decide +kernel), by decide +kernel⟩
theorem q286 : (.code yX3_hasDough cX3_hasDough 2 (some .boolean) : Cond) ∈ GG := List.mem_filter.mpr ⟨List.mem_of_getElem? (i := 286) (by decide +kernel), by decide +kernel⟩
theorem q287 : (.fieldLink RX2 75 RX2 "DOUGH_LEASTS" "[I" : Cond) ∈ GG := List.mem_filter.mpr ⟨List.mem_of_getElem? (i := 287) (by decide +kernel), by decide +kernel⟩
theorem q289 : (.fieldLink RX2 78 RX2 "DOUGH_MOSTS" "[I" : Cond) ∈ GG := List.mem_filter.mpr ⟨List.mem_of_getElem? (i := 289) (by decide +kernel), by decide +kernel⟩
theorem q291 : (.methodLink RX2 81 yX3_setOfLastDough : Cond) ∈ GG := List.mem_filter.mpr ⟨List.mem_of_getElem? (i := 291) (by decide +kernel), by decide +kernel⟩
theorem q292 : (.instanceMethod yX3_setOfLastDough : Cond) ∈ GG := List.mem_filter.mpr ⟨List.mem_of_getElem? (i := 292) (by decide +kernel), by decide +kernel⟩
theorem q293 : (.selects RX3 yX3_setOfLastDough yX3_setOfLastDough : Cond) ∈ GG := List.mem_filter.mpr ⟨List.mem_of_getElem? (i := 293) (by decide +kernel), by decide +kernel⟩
theorem q294 : (.code yX3_setOfLastDough cX3_setOfLastDough 4 none : Cond) ∈ GG := List.mem_filter.mpr ⟨List.mem_of_getElem? (i := 294) (by decide +kernel), by decide +kernel⟩
theorem q295 : (.methodLink RX4 71 yX0_begin : Cond) ∈ GG := List.mem_filter.mpr ⟨List.mem_of_getElem? (i := 295) (by decide +kernel), by decide +kernel⟩
theorem q296 : (.methodLink RL 27 yX4_oven : Cond) ∈ GG := List.mem_filter.mpr ⟨List.mem_of_getElem? (i := 296) (by decide +kernel), by decide +kernel⟩
theorem q297 : (.instanceMethod yX4_oven : Cond) ∈ GG := List.mem_filter.mpr ⟨List.mem_of_getElem? (i := 297) (by decide +kernel), by decide +kernel⟩
theorem q298 : (.selects RX4 yX4_oven yX4_oven : Cond) ∈ GG := List.mem_filter.mpr ⟨List.mem_of_getElem? (i := 298) (by decide +kernel), by decide +kernel⟩
theorem q299 : (.code yX4_oven cX4_oven 3 (some .int) : Cond) ∈ GG := List.mem_filter.mpr ⟨List.mem_of_getElem? (i := 299) (by decide +kernel), by decide +kernel⟩
theorem q300 : (.methodLink RX4 81 yX3_hasOven : Cond) ∈ GG := List.mem_filter.mpr ⟨List.mem_of_getElem? (i := 300) (by decide +kernel), by decide +kernel⟩
theorem q301 : (.instanceMethod yX3_hasOven : Cond) ∈ GG := List.mem_filter.mpr ⟨List.mem_of_getElem? (i := 301) (by decide +kernel), by decide +kernel⟩
theorem q302 : (.selects RX3 yX3_hasOven yX3_hasOven : Cond) ∈ GG := List.mem_filter.mpr ⟨List.mem_of_getElem? (i := 302) (by decide +kernel), by decide +kernel⟩
theorem q303 : (.code yX3_hasOven cX3_hasOven 2 (some .boolean) : Cond) ∈ GG := List.mem_filter.mpr ⟨List.mem_of_getElem? (i := 303) (by decide +kernel), by decide +kernel⟩
theorem q304 : (.constant RX4 84 (-1000000) : Cond) ∈ GG := List.mem_filter.mpr ⟨List.mem_of_getElem? (i := 304) (by decide +kernel), by decide +kernel⟩
theorem q305 : (.methodLink RX4 85 yX3_ofOven : Cond) ∈ GG := List.mem_filter.mpr ⟨List.mem_of_getElem? (i := 305) (by decide +kernel), by decide +kernel⟩
theorem q306 : (.instanceMethod yX3_ofOven : Cond) ∈ GG := List.mem_filter.mpr ⟨List.mem_of_getElem? (i := 306) (by decide +kernel), by decide +kernel⟩
theorem q307 : (.selects RX3 yX3_ofOven yX3_ofOven : Cond) ∈ GG := List.mem_filter.mpr ⟨List.mem_of_getElem? (i := 307) (by decide +kernel), by decide +kernel⟩
theorem q308 : (.code yX3_ofOven cX3_ofOven 4 (some .int) : Cond) ∈ GG := List.mem_filter.mpr ⟨List.mem_of_getElem? (i := 308) (by decide +kernel), by decide +kernel⟩
theorem q309 : (.methodLink RX3 25 yX3_hasOven : Cond) ∈ GG := List.mem_filter.mpr ⟨List.mem_of_getElem? (i := 309) (by decide +kernel), by decide +kernel⟩
theorem q310 : (.methodLink RX4 89 yX0_placedAt : Cond) ∈ GG := List.mem_filter.mpr ⟨List.mem_of_getElem? (i := 310) (by decide +kernel), by decide +kernel⟩
theorem q311 : (.instanceMethod yX0_placedAt : Cond) ∈ GG := List.mem_filter.mpr ⟨List.mem_of_getElem? (i := 311) (by decide +kernel), by decide +kernel⟩
theorem q312 : (.selects RX0 yX0_placedAt yX0_placedAt : Cond) ∈ GG := List.mem_filter.mpr ⟨List.mem_of_getElem? (i := 312) (by decide +kernel), by decide +kernel⟩
theorem q313 : (.code yX0_placedAt cX0_placedAt 5 (some .int) : Cond) ∈ GG := List.mem_filter.mpr ⟨List.mem_of_getElem? (i := 313) (by decide +kernel), by decide +kernel⟩
theorem q314 : (.methodLink RX0 39 yX3_doughs : Cond) ∈ GG := List.mem_filter.mpr ⟨List.mem_of_getElem? (i := 314) (by decide +kernel), by decide +kernel⟩
theorem q315 : (.methodLink RX0 44 yX0_place : Cond) ∈ GG := List.mem_filter.mpr ⟨List.mem_of_getElem? (i := 315) (by decide +kernel), by decide +kernel⟩
theorem q316 : (.instanceMethod yX0_place : Cond) ∈ GG := List.mem_filter.mpr ⟨List.mem_of_getElem? (i := 316) (by decide +kernel), by decide +kernel⟩
theorem q317 : (.selects RX0 yX0_place yX0_place : Cond) ∈ GG := List.mem_filter.mpr ⟨List.mem_of_getElem? (i := 317) (by decide +kernel), by decide +kernel⟩
theorem q318 : (.code yX0_place cX0_place 2 (some .int) : Cond) ∈ GG := List.mem_filter.mpr ⟨List.mem_of_getElem? (i := 318) (by decide +kernel), by decide +kernel⟩
theorem q319 : (.methodLink RX0 35 yX0_isPlace : Cond) ∈ GG := List.mem_filter.mpr ⟨List.mem_of_getElem? (i := 319) (by decide +kernel), by decide +kernel⟩
theorem q320 : (.static yX0_isPlace : Cond) ∈ GG := List.mem_filter.mpr ⟨List.mem_of_getElem? (i := 320) (by decide +kernel), by decide +kernel⟩
theorem q321 : (.code yX0_isPlace cX0_isPlace 1 (some .boolean) : Cond) ∈ GG := List.mem_filter.mpr ⟨List.mem_of_getElem? (i := 321) (by decide +kernel), by decide +kernel⟩
theorem q322 : (.methodLink RX0 28 yX0_base : Cond) ∈ GG := List.mem_filter.mpr ⟨List.mem_of_getElem? (i := 322) (by decide +kernel), by decide +kernel⟩
theorem q324 : (.instanceMethod yX0_base : Cond) ∈ GG := List.mem_filter.mpr ⟨List.mem_of_getElem? (i := 324) (by decide +kernel), by decide +kernel⟩
theorem q325 : (.code yX0_base cX0_base 1 (some .int) : Cond) ∈ GG := List.mem_filter.mpr ⟨List.mem_of_getElem? (i := 325) (by decide +kernel), by decide +kernel⟩
theorem q326 : (.methodLink RX4 93 yX0_hot : Cond) ∈ GG := List.mem_filter.mpr ⟨List.mem_of_getElem? (i := 326) (by decide +kernel), by decide +kernel⟩
theorem q327 : (.instanceMethod yX0_hot : Cond) ∈ GG := List.mem_filter.mpr ⟨List.mem_of_getElem? (i := 327) (by decide +kernel), by decide +kernel⟩
theorem q328 : (.selects RX0 yX0_hot yX0_hot : Cond) ∈ GG := List.mem_filter.mpr ⟨List.mem_of_getElem? (i := 328) (by decide +kernel), by decide +kernel⟩
theorem q329 : (.code yX0_hot cX0_hot 4 (some .int) : Cond) ∈ GG := List.mem_filter.mpr ⟨List.mem_of_getElem? (i := 329) (by decide +kernel), by decide +kernel⟩
theorem q330 : (.methodLink RX0 48 yX0_placedAt : Cond) ∈ GG := List.mem_filter.mpr ⟨List.mem_of_getElem? (i := 330) (by decide +kernel), by decide +kernel⟩
theorem q331 : (.methodLink RX0 52 yJ6_bitCount_0f7a4 : Cond) ∈ GG := List.mem_filter.mpr ⟨List.mem_of_getElem? (i := 331) (by decide +kernel), by decide +kernel⟩
theorem q332 : (.static yJ6_bitCount_0f7a4 : Cond) ∈ GG := List.mem_filter.mpr ⟨List.mem_of_getElem? (i := 332) (by decide +kernel), by decide +kernel⟩
theorem q333 : (.code yJ6_bitCount_0f7a4 cJ6_bitCount_0f7a4 1 (some .int) : Cond) ∈ GG := List.mem_filter.mpr ⟨List.mem_of_getElem? (i := 333) (by decide +kernel), by decide +kernel⟩
theorem q334 : (.constant RJ6 265 (1431655765) : Cond) ∈ GG := List.mem_filter.mpr ⟨List.mem_of_getElem? (i := 334) (by decide +kernel), by decide +kernel⟩
theorem q335 : (.constant RJ6 266 (858993459) : Cond) ∈ GG := List.mem_filter.mpr ⟨List.mem_of_getElem? (i := 335) (by decide +kernel), by decide +kernel⟩
theorem q336 : (.constant RJ6 267 (252645135) : Cond) ∈ GG := List.mem_filter.mpr ⟨List.mem_of_getElem? (i := 336) (by decide +kernel), by decide +kernel⟩
theorem q337 : (.methodLink RX0 57 yX3_ofOven : Cond) ∈ GG := List.mem_filter.mpr ⟨List.mem_of_getElem? (i := 337) (by decide +kernel), by decide +kernel⟩
theorem q338 : (.methodLink RX4 96 yX0_isShut : Cond) ∈ GG := List.mem_filter.mpr ⟨List.mem_of_getElem? (i := 338) (by decide +kernel), by decide +kernel⟩
theorem q339 : (.instanceMethod yX0_isShut : Cond) ∈ GG := List.mem_filter.mpr ⟨List.mem_of_getElem? (i := 339) (by decide +kernel), by decide +kernel⟩
theorem q340 : (.selects RX0 yX0_isShut yX0_isShut : Cond) ∈ GG := List.mem_filter.mpr ⟨List.mem_of_getElem? (i := 340) (by decide +kernel), by decide +kernel⟩
theorem q341 : (.code yX0_isShut cX0_isShut 2 (some .boolean) : Cond) ∈ GG := List.mem_filter.mpr ⟨List.mem_of_getElem? (i := 341) (by decide +kernel), by decide +kernel⟩
theorem q342 : (.methodLink RX0 32 yX0_shutBits : Cond) ∈ GG := List.mem_filter.mpr ⟨List.mem_of_getElem? (i := 342) (by decide +kernel), by decide +kernel⟩
theorem q343 : (.instanceMethod yX0_shutBits : Cond) ∈ GG := List.mem_filter.mpr ⟨List.mem_of_getElem? (i := 343) (by decide +kernel), by decide +kernel⟩
theorem q344 : (.selects RX0 yX0_shutBits yX0_shutBits : Cond) ∈ GG := List.mem_filter.mpr ⟨List.mem_of_getElem? (i := 344) (by decide +kernel), by decide +kernel⟩
theorem q345 : (.code yX0_shutBits cX0_shutBits 1 (some .int) : Cond) ∈ GG := List.mem_filter.mpr ⟨List.mem_of_getElem? (i := 345) (by decide +kernel), by decide +kernel⟩
theorem q346 : (.methodLink RL 32 yX4_dough : Cond) ∈ GG := List.mem_filter.mpr ⟨List.mem_of_getElem? (i := 346) (by decide +kernel), by decide +kernel⟩
theorem q347 : (.instanceMethod yX4_dough : Cond) ∈ GG := List.mem_filter.mpr ⟨List.mem_of_getElem? (i := 347) (by decide +kernel), by decide +kernel⟩
theorem q348 : (.selects RX4 yX4_dough yX4_dough : Cond) ∈ GG := List.mem_filter.mpr ⟨List.mem_of_getElem? (i := 348) (by decide +kernel), by decide +kernel⟩
theorem q349 : (.code yX4_dough cX4_dough 3 (some .int) : Cond) ∈ GG := List.mem_filter.mpr ⟨List.mem_of_getElem? (i := 349) (by decide +kernel), by decide +kernel⟩
theorem q350 : (.methodLink RX4 99 yX3_hasDough : Cond) ∈ GG := List.mem_filter.mpr ⟨List.mem_of_getElem? (i := 350) (by decide +kernel), by decide +kernel⟩
theorem q351 : (.methodLink RX4 102 yX3_ofDough : Cond) ∈ GG := List.mem_filter.mpr ⟨List.mem_of_getElem? (i := 351) (by decide +kernel), by decide +kernel⟩
theorem q352 : (.methodLink RX4 105 yX0_place : Cond) ∈ GG := List.mem_filter.mpr ⟨List.mem_of_getElem? (i := 352) (by decide +kernel), by decide +kernel⟩
theorem q353 : (.methodLink RX4 109 yX0_baked : Cond) ∈ GG := List.mem_filter.mpr ⟨List.mem_of_getElem? (i := 353) (by decide +kernel), by decide +kernel⟩
theorem q354 : (.instanceMethod yX0_baked : Cond) ∈ GG := List.mem_filter.mpr ⟨List.mem_of_getElem? (i := 354) (by decide +kernel), by decide +kernel⟩
theorem q355 : (.selects RX0 yX0_baked yX0_baked : Cond) ∈ GG := List.mem_filter.mpr ⟨List.mem_of_getElem? (i := 355) (by decide +kernel), by decide +kernel⟩
theorem q356 : (.code yX0_baked cX0_baked 2 (some .int) : Cond) ∈ GG := List.mem_filter.mpr ⟨List.mem_of_getElem? (i := 356) (by decide +kernel), by decide +kernel⟩
theorem q357 : (.methodLink RX4 112 yX4_isOut : Cond) ∈ GG := List.mem_filter.mpr ⟨List.mem_of_getElem? (i := 357) (by decide +kernel), by decide +kernel⟩
theorem q359 : (.instanceMethod yX4_isOut : Cond) ∈ GG := List.mem_filter.mpr ⟨List.mem_of_getElem? (i := 359) (by decide +kernel), by decide +kernel⟩
theorem q360 : (.code yX4_isOut cX4_isOut 2 (some .boolean) : Cond) ∈ GG := List.mem_filter.mpr ⟨List.mem_of_getElem? (i := 360) (by decide +kernel), by decide +kernel⟩
theorem q361 : (.methodLink RX4 115 yX4_noseOf : Cond) ∈ GG := List.mem_filter.mpr ⟨List.mem_of_getElem? (i := 361) (by decide +kernel), by decide +kernel⟩
theorem q363 : (.instanceMethod yX4_noseOf : Cond) ∈ GG := List.mem_filter.mpr ⟨List.mem_of_getElem? (i := 363) (by decide +kernel), by decide +kernel⟩
theorem q364 : (.code yX4_noseOf cX4_noseOf 7 (some .int) : Cond) ∈ GG := List.mem_filter.mpr ⟨List.mem_of_getElem? (i := 364) (by decide +kernel), by decide +kernel⟩
theorem q365 : (.methodLink RX4 193 yX3_ovens : Cond) ∈ GG := List.mem_filter.mpr ⟨List.mem_of_getElem? (i := 365) (by decide +kernel), by decide +kernel⟩
theorem q366 : (.instanceMethod yX3_ovens : Cond) ∈ GG := List.mem_filter.mpr ⟨List.mem_of_getElem? (i := 366) (by decide +kernel), by decide +kernel⟩
theorem q367 : (.selects RX3 yX3_ovens yX3_ovens : Cond) ∈ GG := List.mem_filter.mpr ⟨List.mem_of_getElem? (i := 367) (by decide +kernel), by decide +kernel⟩
theorem q368 : (.code yX3_ovens cX3_ovens 1 (some .int) : Cond) ∈ GG := List.mem_filter.mpr ⟨List.mem_of_getElem? (i := 368) (by decide +kernel), by decide +kernel⟩
theorem q369 : (.methodLink RX4 118 yX4_smellOf : Cond) ∈ GG := List.mem_filter.mpr ⟨List.mem_of_getElem? (i := 369) (by decide +kernel), by decide +kernel⟩
theorem q371 : (.instanceMethod yX4_smellOf : Cond) ∈ GG := List.mem_filter.mpr ⟨List.mem_of_getElem? (i := 371) (by decide +kernel), by decide +kernel⟩
theorem q372 : (.code yX4_smellOf cX4_smellOf 6 (some .int) : Cond) ∈ GG := List.mem_filter.mpr ⟨List.mem_of_getElem? (i := 372) (by decide +kernel), by decide +kernel⟩
theorem q373 : (.methodLink RX4 165 yX3_doughs : Cond) ∈ GG := List.mem_filter.mpr ⟨List.mem_of_getElem? (i := 373) (by decide +kernel), by decide +kernel⟩
theorem q374 : (.methodLink RX4 225 yX4_liking : Cond) ∈ GG := List.mem_filter.mpr ⟨List.mem_of_getElem? (i := 374) (by decide +kernel), by decide +kernel⟩
theorem q376 : (.instanceMethod yX4_liking : Cond) ∈ GG := List.mem_filter.mpr ⟨List.mem_of_getElem? (i := 376) (by decide +kernel), by decide +kernel⟩
theorem q377 : (.code yX4_liking cX4_liking 6 (some .int) : Cond) ∈ GG := List.mem_filter.mpr ⟨List.mem_of_getElem? (i := 377) (by decide +kernel), by decide +kernel⟩
theorem q378 : (.methodLink RL 36 yX4_smell : Cond) ∈ GG := List.mem_filter.mpr ⟨List.mem_of_getElem? (i := 378) (by decide +kernel), by decide +kernel⟩
theorem q379 : (.instanceMethod yX4_smell : Cond) ∈ GG := List.mem_filter.mpr ⟨List.mem_of_getElem? (i := 379) (by decide +kernel), by decide +kernel⟩
theorem q380 : (.selects RX4 yX4_smell yX4_smell : Cond) ∈ GG := List.mem_filter.mpr ⟨List.mem_of_getElem? (i := 380) (by decide +kernel), by decide +kernel⟩
theorem q381 : (.code yX4_smell cX4_smell 3 (some .int) : Cond) ∈ GG := List.mem_filter.mpr ⟨List.mem_of_getElem? (i := 381) (by decide +kernel), by decide +kernel⟩
theorem q382 : (.methodLink RL 40 yX4_follows : Cond) ∈ GG := List.mem_filter.mpr ⟨List.mem_of_getElem? (i := 382) (by decide +kernel), by decide +kernel⟩
theorem q383 : (.instanceMethod yX4_follows : Cond) ∈ GG := List.mem_filter.mpr ⟨List.mem_of_getElem? (i := 383) (by decide +kernel), by decide +kernel⟩
theorem q384 : (.selects RX4 yX4_follows yX4_follows : Cond) ∈ GG := List.mem_filter.mpr ⟨List.mem_of_getElem? (i := 384) (by decide +kernel), by decide +kernel⟩
theorem q385 : (.code yX4_follows cX4_follows 3 (some .int) : Cond) ∈ GG := List.mem_filter.mpr ⟨List.mem_of_getElem? (i := 385) (by decide +kernel), by decide +kernel⟩
theorem q386 : (.methodLink RX4 122 yX4_mayGoIn : Cond) ∈ GG := List.mem_filter.mpr ⟨List.mem_of_getElem? (i := 386) (by decide +kernel), by decide +kernel⟩
theorem q388 : (.instanceMethod yX4_mayGoIn : Cond) ∈ GG := List.mem_filter.mpr ⟨List.mem_of_getElem? (i := 388) (by decide +kernel), by decide +kernel⟩
theorem q389 : (.code yX4_mayGoIn cX4_mayGoIn 3 (some .boolean) : Cond) ∈ GG := List.mem_filter.mpr ⟨List.mem_of_getElem? (i := 389) (by decide +kernel), by decide +kernel⟩
theorem q390 : (.methodLink RX4 137 yX0_minute : Cond) ∈ GG := List.mem_filter.mpr ⟨List.mem_of_getElem? (i := 390) (by decide +kernel), by decide +kernel⟩
theorem q391 : (.instanceMethod yX0_minute : Cond) ∈ GG := List.mem_filter.mpr ⟨List.mem_of_getElem? (i := 391) (by decide +kernel), by decide +kernel⟩
theorem q392 : (.selects RX0 yX0_minute yX0_minute : Cond) ∈ GG := List.mem_filter.mpr ⟨List.mem_of_getElem? (i := 392) (by decide +kernel), by decide +kernel⟩
theorem q393 : (.code yX0_minute cX0_minute 1 (some .int) : Cond) ∈ GG := List.mem_filter.mpr ⟨List.mem_of_getElem? (i := 393) (by decide +kernel), by decide +kernel⟩
theorem q394 : (.methodLink RX4 125 yX0_remember : Cond) ∈ GG := List.mem_filter.mpr ⟨List.mem_of_getElem? (i := 394) (by decide +kernel), by decide +kernel⟩
theorem q395 : (.instanceMethod yX0_remember : Cond) ∈ GG := List.mem_filter.mpr ⟨List.mem_of_getElem? (i := 395) (by decide +kernel), by decide +kernel⟩
theorem q396 : (.selects RX0 yX0_remember yX0_remember : Cond) ∈ GG := List.mem_filter.mpr ⟨List.mem_of_getElem? (i := 396) (by decide +kernel), by decide +kernel⟩
theorem q397 : (.code yX0_remember cX0_remember 1 none : Cond) ∈ GG := List.mem_filter.mpr ⟨List.mem_of_getElem? (i := 397) (by decide +kernel), by decide +kernel⟩
theorem q398 : (.methodLink RX0 22 arraycopyName : Cond) ∈ GG := List.mem_filter.mpr ⟨List.mem_of_getElem? (i := 398) (by decide +kernel), by decide +kernel⟩
theorem q399 : (.static arraycopyName : Cond) ∈ GG := List.mem_filter.mpr ⟨List.mem_of_getElem? (i := 399) (by decide +kernel), by decide +kernel⟩
theorem q400 : (.native arraycopyName : Cond) ∈ GG := List.mem_filter.mpr ⟨List.mem_of_getElem? (i := 400) (by decide +kernel), by decide +kernel⟩
theorem q401 : (.methodLink RX4 128 yX0_putIn : Cond) ∈ GG := List.mem_filter.mpr ⟨List.mem_of_getElem? (i := 401) (by decide +kernel), by decide +kernel⟩
theorem q402 : (.instanceMethod yX0_putIn : Cond) ∈ GG := List.mem_filter.mpr ⟨List.mem_of_getElem? (i := 402) (by decide +kernel), by decide +kernel⟩
theorem q403 : (.selects RX0 yX0_putIn yX0_putIn : Cond) ∈ GG := List.mem_filter.mpr ⟨List.mem_of_getElem? (i := 403) (by decide +kernel), by decide +kernel⟩
theorem q404 : (.code yX0_putIn cX0_putIn 3 none : Cond) ∈ GG := List.mem_filter.mpr ⟨List.mem_of_getElem? (i := 404) (by decide +kernel), by decide +kernel⟩
theorem q405 : (.methodLink RL 44 yX4_puts : Cond) ∈ GG := List.mem_filter.mpr ⟨List.mem_of_getElem? (i := 405) (by decide +kernel), by decide +kernel⟩
theorem q406 : (.instanceMethod yX4_puts : Cond) ∈ GG := List.mem_filter.mpr ⟨List.mem_of_getElem? (i := 406) (by decide +kernel), by decide +kernel⟩
theorem q407 : (.selects RX4 yX4_puts yX4_puts : Cond) ∈ GG := List.mem_filter.mpr ⟨List.mem_of_getElem? (i := 407) (by decide +kernel), by decide +kernel⟩
theorem q408 : (.code yX4_puts cX4_puts 3 (some .int) : Cond) ∈ GG := List.mem_filter.mpr ⟨List.mem_of_getElem? (i := 408) (by decide +kernel), by decide +kernel⟩
theorem q409 : (.methodLink RX4 132 yJ6_bitCount_0f7a4 : Cond) ∈ GG := List.mem_filter.mpr ⟨List.mem_of_getElem? (i := 409) (by decide +kernel), by decide +kernel⟩
theorem q410 : (.methodLink RL 48 yX4_minutes : Cond) ∈ GG := List.mem_filter.mpr ⟨List.mem_of_getElem? (i := 410) (by decide +kernel), by decide +kernel⟩
theorem q411 : (.instanceMethod yX4_minutes : Cond) ∈ GG := List.mem_filter.mpr ⟨List.mem_of_getElem? (i := 411) (by decide +kernel), by decide +kernel⟩
theorem q412 : (.selects RX4 yX4_minutes yX4_minutes : Cond) ∈ GG := List.mem_filter.mpr ⟨List.mem_of_getElem? (i := 412) (by decide +kernel), by decide +kernel⟩
theorem q413 : (.code yX4_minutes cX4_minutes 4 (some .int) : Cond) ∈ GG := List.mem_filter.mpr ⟨List.mem_of_getElem? (i := 413) (by decide +kernel), by decide +kernel⟩
theorem q414 : (.methodLink RX4 140 yX0_passMinute : Cond) ∈ GG := List.mem_filter.mpr ⟨List.mem_of_getElem? (i := 414) (by decide +kernel), by decide +kernel⟩
theorem q415 : (.instanceMethod yX0_passMinute : Cond) ∈ GG := List.mem_filter.mpr ⟨List.mem_of_getElem? (i := 415) (by decide +kernel), by decide +kernel⟩
theorem q416 : (.selects RX0 yX0_passMinute yX0_passMinute : Cond) ∈ GG := List.mem_filter.mpr ⟨List.mem_of_getElem? (i := 416) (by decide +kernel), by decide +kernel⟩
theorem q417 : (.code yX0_passMinute cX0_passMinute 3 none : Cond) ∈ GG := List.mem_filter.mpr ⟨List.mem_of_getElem? (i := 417) (by decide +kernel), by decide +kernel⟩
theorem q418 : (.methodLink RX0 61 yX3_hasOven : Cond) ∈ GG := List.mem_filter.mpr ⟨List.mem_of_getElem? (i := 418) (by decide +kernel), by decide +kernel⟩
theorem q419 : (.methodLink RX0 64 yX0_hot : Cond) ∈ GG := List.mem_filter.mpr ⟨List.mem_of_getElem? (i := 419) (by decide +kernel), by decide +kernel⟩
theorem q420 : (.methodLink RX0 67 yX0_baked : Cond) ∈ GG := List.mem_filter.mpr ⟨List.mem_of_getElem? (i := 420) (by decide +kernel), by decide +kernel⟩
theorem q421 : (.methodLink RX0 70 yX3_ofDough : Cond) ∈ GG := List.mem_filter.mpr ⟨List.mem_of_getElem? (i := 421) (by decide +kernel), by decide +kernel⟩
theorem q422 : (.methodLink RL 52 yX4_shuts : Cond) ∈ GG := List.mem_filter.mpr ⟨List.mem_of_getElem? (i := 422) (by decide +kernel), by decide +kernel⟩
theorem q423 : (.instanceMethod yX4_shuts : Cond) ∈ GG := List.mem_filter.mpr ⟨List.mem_of_getElem? (i := 423) (by decide +kernel), by decide +kernel⟩
theorem q424 : (.selects RX4 yX4_shuts yX4_shuts : Cond) ∈ GG := List.mem_filter.mpr ⟨List.mem_of_getElem? (i := 424) (by decide +kernel), by decide +kernel⟩
theorem q425 : (.code yX4_shuts cX4_shuts 3 (some .int) : Cond) ∈ GG := List.mem_filter.mpr ⟨List.mem_of_getElem? (i := 425) (by decide +kernel), by decide +kernel⟩
theorem q426 : (.methodLink RX4 144 yX0_turnDoor : Cond) ∈ GG := List.mem_filter.mpr ⟨List.mem_of_getElem? (i := 426) (by decide +kernel), by decide +kernel⟩
theorem q427 : (.instanceMethod yX0_turnDoor : Cond) ∈ GG := List.mem_filter.mpr ⟨List.mem_of_getElem? (i := 427) (by decide +kernel), by decide +kernel⟩
theorem q428 : (.selects RX0 yX0_turnDoor yX0_turnDoor : Cond) ∈ GG := List.mem_filter.mpr ⟨List.mem_of_getElem? (i := 428) (by decide +kernel), by decide +kernel⟩
theorem q429 : (.code yX0_turnDoor cX0_turnDoor 2 none : Cond) ∈ GG := List.mem_filter.mpr ⟨List.mem_of_getElem? (i := 429) (by decide +kernel), by decide +kernel⟩
theorem q430 : (.methodLink RX4 148 yX0_shutBits : Cond) ∈ GG := List.mem_filter.mpr ⟨List.mem_of_getElem? (i := 430) (by decide +kernel), by decide +kernel⟩
theorem q431 : (.methodLink RL 56 yX4_undo : Cond) ∈ GG := List.mem_filter.mpr ⟨List.mem_of_getElem? (i := 431) (by decide +kernel), by decide +kernel⟩
theorem q432 : (.instanceMethod yX4_undo : Cond) ∈ GG := List.mem_filter.mpr ⟨List.mem_of_getElem? (i := 432) (by decide +kernel), by decide +kernel⟩
theorem q433 : (.selects RX4 yX4_undo yX4_undo : Cond) ∈ GG := List.mem_filter.mpr ⟨List.mem_of_getElem? (i := 433) (by decide +kernel), by decide +kernel⟩
theorem q434 : (.code yX4_undo cX4_undo 1 (some .int) : Cond) ∈ GG := List.mem_filter.mpr ⟨List.mem_of_getElem? (i := 434) (by decide +kernel), by decide +kernel⟩
theorem q435 : (.methodLink RX4 151 yX0_takeBack : Cond) ∈ GG := List.mem_filter.mpr ⟨List.mem_of_getElem? (i := 435) (by decide +kernel), by decide +kernel⟩
theorem q436 : (.instanceMethod yX0_takeBack : Cond) ∈ GG := List.mem_filter.mpr ⟨List.mem_of_getElem? (i := 436) (by decide +kernel), by decide +kernel⟩
theorem q437 : (.selects RX0 yX0_takeBack yX0_takeBack : Cond) ∈ GG := List.mem_filter.mpr ⟨List.mem_of_getElem? (i := 437) (by decide +kernel), by decide +kernel⟩
theorem q438 : (.code yX0_takeBack cX0_takeBack 1 (some .boolean) : Cond) ∈ GG := List.mem_filter.mpr ⟨List.mem_of_getElem? (i := 438) (by decide +kernel), by decide +kernel⟩
theorem q439 : (.methodLink RX4 155 yX0_known : Cond) ∈ GG := List.mem_filter.mpr ⟨List.mem_of_getElem? (i := 439) (by decide +kernel), by decide +kernel⟩
theorem q440 : (.instanceMethod yX0_known : Cond) ∈ GG := List.mem_filter.mpr ⟨List.mem_of_getElem? (i := 440) (by decide +kernel), by decide +kernel⟩
theorem q441 : (.selects RX0 yX0_known yX0_known : Cond) ∈ GG := List.mem_filter.mpr ⟨List.mem_of_getElem? (i := 441) (by decide +kernel), by decide +kernel⟩
theorem q442 : (.code yX0_known cX0_known 1 (some .int) : Cond) ∈ GG := List.mem_filter.mpr ⟨List.mem_of_getElem? (i := 442) (by decide +kernel), by decide +kernel⟩
theorem q443 : (.methodLink RL 60 yX4_now : Cond) ∈ GG := List.mem_filter.mpr ⟨List.mem_of_getElem? (i := 443) (by decide +kernel), by decide +kernel⟩
theorem q444 : (.instanceMethod yX4_now : Cond) ∈ GG := List.mem_filter.mpr ⟨List.mem_of_getElem? (i := 444) (by decide +kernel), by decide +kernel⟩
theorem q445 : (.selects RX4 yX4_now yX4_now : Cond) ∈ GG := List.mem_filter.mpr ⟨List.mem_of_getElem? (i := 445) (by decide +kernel), by decide +kernel⟩
theorem q446 : (.code yX4_now cX4_now 2 (some .int) : Cond) ∈ GG := List.mem_filter.mpr ⟨List.mem_of_getElem? (i := 446) (by decide +kernel), by decide +kernel⟩
theorem q447 : (.methodLink RX4 158 yX4_outAndGoneSour : Cond) ∈ GG := List.mem_filter.mpr ⟨List.mem_of_getElem? (i := 447) (by decide +kernel), by decide +kernel⟩
theorem q449 : (.instanceMethod yX4_outAndGoneSour : Cond) ∈ GG := List.mem_filter.mpr ⟨List.mem_of_getElem? (i := 449) (by decide +kernel), by decide +kernel⟩
theorem q450 : (.code yX4_outAndGoneSour cX4_outAndGoneSour 3 (some .int) : Cond) ∈ GG := List.mem_filter.mpr ⟨List.mem_of_getElem? (i := 450) (by decide +kernel), by decide +kernel⟩
theorem q451 : (.methodLink RL 64 yX4_when : Cond) ∈ GG := List.mem_filter.mpr ⟨List.mem_of_getElem? (i := 451) (by decide +kernel), by decide +kernel⟩
theorem q452 : (.instanceMethod yX4_when : Cond) ∈ GG := List.mem_filter.mpr ⟨List.mem_of_getElem? (i := 452) (by decide +kernel), by decide +kernel⟩
theorem q453 : (.selects RX4 yX4_when yX4_when : Cond) ∈ GG := List.mem_filter.mpr ⟨List.mem_of_getElem? (i := 453) (by decide +kernel), by decide +kernel⟩
theorem q454 : (.code yX4_when cX4_when 3 (some .int) : Cond) ∈ GG := List.mem_filter.mpr ⟨List.mem_of_getElem? (i := 454) (by decide +kernel), by decide +kernel⟩
theorem q455 : (.methodLink RX4 161 yX0_copyNow : Cond) ∈ GG := List.mem_filter.mpr ⟨List.mem_of_getElem? (i := 455) (by decide +kernel), by decide +kernel⟩
theorem q456 : (.instanceMethod yX0_copyNow : Cond) ∈ GG := List.mem_filter.mpr ⟨List.mem_of_getElem? (i := 456) (by decide +kernel), by decide +kernel⟩
theorem q457 : (.selects RX0 yX0_copyNow yX0_copyNow : Cond) ∈ GG := List.mem_filter.mpr ⟨List.mem_of_getElem? (i := 457) (by decide +kernel), by decide +kernel⟩
theorem q458 : (.code yX0_copyNow cX0_copyNow 2 none : Cond) ∈ GG := List.mem_filter.mpr ⟨List.mem_of_getElem? (i := 458) (by decide +kernel), by decide +kernel⟩
theorem q459 : (.methodLink RL 68 yX4_moved : Cond) ∈ GG := List.mem_filter.mpr ⟨List.mem_of_getElem? (i := 459) (by decide +kernel), by decide +kernel⟩
theorem q460 : (.instanceMethod yX4_moved : Cond) ∈ GG := List.mem_filter.mpr ⟨List.mem_of_getElem? (i := 460) (by decide +kernel), by decide +kernel⟩
theorem q461 : (.selects RX4 yX4_moved yX4_moved : Cond) ∈ GG := List.mem_filter.mpr ⟨List.mem_of_getElem? (i := 461) (by decide +kernel), by decide +kernel⟩
theorem q462 : (.code yX4_moved cX4_moved 4 (some .int) : Cond) ∈ GG := List.mem_filter.mpr ⟨List.mem_of_getElem? (i := 462) (by decide +kernel), by decide +kernel⟩
theorem q463 : (.methodLink RL 72 yX4_order : Cond) ∈ GG := List.mem_filter.mpr ⟨List.mem_of_getElem? (i := 463) (by decide +kernel), by decide +kernel⟩
theorem q464 : (.instanceMethod yX4_order : Cond) ∈ GG := List.mem_filter.mpr ⟨List.mem_of_getElem? (i := 464) (by decide +kernel), by decide +kernel⟩
theorem q465 : (.selects RX4 yX4_order yX4_order : Cond) ∈ GG := List.mem_filter.mpr ⟨List.mem_of_getElem? (i := 465) (by decide +kernel), by decide +kernel⟩
theorem q466 : (.code yX4_order cX4_order 4 (some .int) : Cond) ∈ GG := List.mem_filter.mpr ⟨List.mem_of_getElem? (i := 466) (by decide +kernel), by decide +kernel⟩
theorem q467 : (.methodLink RX4 168 yX1_find : Cond) ∈ GG := List.mem_filter.mpr ⟨List.mem_of_getElem? (i := 467) (by decide +kernel), by decide +kernel⟩
theorem q468 : (.instanceMethod yX1_find : Cond) ∈ GG := List.mem_filter.mpr ⟨List.mem_of_getElem? (i := 468) (by decide +kernel), by decide +kernel⟩
theorem q469 : (.selects RX1 yX1_find yX1_find : Cond) ∈ GG := List.mem_filter.mpr ⟨List.mem_of_getElem? (i := 469) (by decide +kernel), by decide +kernel⟩
theorem q470 : (.code yX1_find cX1_find 7 none : Cond) ∈ GG := List.mem_filter.mpr ⟨List.mem_of_getElem? (i := 470) (by decide +kernel), by decide +kernel⟩
theorem q471 : (.methodLink RX1 25 yX0_minute : Cond) ∈ GG := List.mem_filter.mpr ⟨List.mem_of_getElem? (i := 471) (by decide +kernel), by decide +kernel⟩
theorem q472 : (.methodLink RX1 37 yX3_ofOven : Cond) ∈ GG := List.mem_filter.mpr ⟨List.mem_of_getElem? (i := 472) (by decide +kernel), by decide +kernel⟩
theorem q473 : (.methodLink RX1 43 yX3_doughs : Cond) ∈ GG := List.mem_filter.mpr ⟨List.mem_of_getElem? (i := 473) (by decide +kernel), by decide +kernel⟩
theorem q474 : (.methodLink RX1 46 yX3_ofDough : Cond) ∈ GG := List.mem_filter.mpr ⟨List.mem_of_getElem? (i := 474) (by decide +kernel), by decide +kernel⟩
theorem q476 : (.static yX4_dividedUp : Cond) ∈ GG := List.mem_filter.mpr ⟨List.mem_of_getElem? (i := 476) (by decide +kernel), by decide +kernel⟩
theorem q477 : (.code yX4_dividedUp cX4_dividedUp 2 (some .int) : Cond) ∈ GG := List.mem_filter.mpr ⟨List.mem_of_getElem? (i := 477) (by decide +kernel), by decide +kernel⟩
theorem q478 : (.methodLink RX1 52 yX0_placedAt : Cond) ∈ GG := List.mem_filter.mpr ⟨List.mem_of_getElem? (i := 478) (by decide +kernel), by decide +kernel⟩
theorem q479 : (.methodLink RX1 56 yX1_extend : Cond) ∈ GG := List.mem_filter.mpr ⟨List.mem_of_getElem? (i := 479) (by decide +kernel), by decide +kernel⟩
theorem q481 : (.instanceMethod yX1_extend : Cond) ∈ GG := List.mem_filter.mpr ⟨List.mem_of_getElem? (i := 481) (by decide +kernel), by decide +kernel⟩
theorem q482 : (.code yX1_extend cX1_extend 8 none : Cond) ∈ GG := List.mem_filter.mpr ⟨List.mem_of_getElem? (i := 482) (by decide +kernel), by decide +kernel⟩
theorem q483 : (.methodLink RX1 60 yX1_weigh : Cond) ∈ GG := List.mem_filter.mpr ⟨List.mem_of_getElem? (i := 483) (by decide +kernel), by decide +kernel⟩
theorem q485 : (.instanceMethod yX1_weigh : Cond) ∈ GG := List.mem_filter.mpr ⟨List.mem_of_getElem? (i := 485) (by decide +kernel), by decide +kernel⟩
theorem q486 : (.code yX1_weigh cX1_weigh 3 none : Cond) ∈ GG := List.mem_filter.mpr ⟨List.mem_of_getElem? (i := 486) (by decide +kernel), by decide +kernel⟩
theorem q487 : (.methodLink RX1 69 arraycopyName : Cond) ∈ GG := List.mem_filter.mpr ⟨List.mem_of_getElem? (i := 487) (by decide +kernel), by decide +kernel⟩
theorem q488 : (.methodLink RX1 64 yJ9_max_7cf53 : Cond) ∈ GG := List.mem_filter.mpr ⟨List.mem_of_getElem? (i := 488) (by decide +kernel), by decide +kernel⟩
theorem q489 : (.static yJ9_max_7cf53 : Cond) ∈ GG := List.mem_filter.mpr ⟨List.mem_of_getElem? (i := 489) (by decide +kernel), by decide +kernel⟩
theorem q490 : (.code yJ9_max_7cf53 cJ9_max_7cf53 2 (some .int) : Cond) ∈ GG := List.mem_filter.mpr ⟨List.mem_of_getElem? (i := 490) (by decide +kernel), by decide +kernel⟩
theorem q491 : (.methodLink RX4 172 yX1_bestCount : Cond) ∈ GG := List.mem_filter.mpr ⟨List.mem_of_getElem? (i := 491) (by decide +kernel), by decide +kernel⟩
theorem q492 : (.instanceMethod yX1_bestCount : Cond) ∈ GG := List.mem_filter.mpr ⟨List.mem_of_getElem? (i := 492) (by decide +kernel), by decide +kernel⟩
theorem q493 : (.selects RX1 yX1_bestCount yX1_bestCount : Cond) ∈ GG := List.mem_filter.mpr ⟨List.mem_of_getElem? (i := 493) (by decide +kernel), by decide +kernel⟩
theorem q494 : (.code yX1_bestCount cX1_bestCount 1 (some .int) : Cond) ∈ GG := List.mem_filter.mpr ⟨List.mem_of_getElem? (i := 494) (by decide +kernel), by decide +kernel⟩
theorem q495 : (.methodLink RX4 175 yX1_bestEnd : Cond) ∈ GG := List.mem_filter.mpr ⟨List.mem_of_getElem? (i := 495) (by decide +kernel), by decide +kernel⟩
theorem q496 : (.instanceMethod yX1_bestEnd : Cond) ∈ GG := List.mem_filter.mpr ⟨List.mem_of_getElem? (i := 496) (by decide +kernel), by decide +kernel⟩
theorem q497 : (.selects RX1 yX1_bestEnd yX1_bestEnd : Cond) ∈ GG := List.mem_filter.mpr ⟨List.mem_of_getElem? (i := 497) (by decide +kernel), by decide +kernel⟩
theorem q498 : (.code yX1_bestEnd cX1_bestEnd 1 (some .int) : Cond) ∈ GG := List.mem_filter.mpr ⟨List.mem_of_getElem? (i := 498) (by decide +kernel), by decide +kernel⟩
theorem q499 : (.methodLink RX4 178 yX1_bestAt : Cond) ∈ GG := List.mem_filter.mpr ⟨List.mem_of_getElem? (i := 499) (by decide +kernel), by decide +kernel⟩
theorem q500 : (.instanceMethod yX1_bestAt : Cond) ∈ GG := List.mem_filter.mpr ⟨List.mem_of_getElem? (i := 500) (by decide +kernel), by decide +kernel⟩
theorem q501 : (.selects RX1 yX1_bestAt yX1_bestAt : Cond) ∈ GG := List.mem_filter.mpr ⟨List.mem_of_getElem? (i := 501) (by decide +kernel), by decide +kernel⟩
theorem q502 : (.code yX1_bestAt cX1_bestAt 2 (some .int) : Cond) ∈ GG := List.mem_filter.mpr ⟨List.mem_of_getElem? (i := 502) (by decide +kernel), by decide +kernel⟩
theorem q503 : (.methodLink RL 77 yX4_fire : Cond) ∈ GG := List.mem_filter.mpr ⟨List.mem_of_getElem? (i := 503) (by decide +kernel), by decide +kernel⟩
theorem q504 : (.instanceMethod yX4_fire : Cond) ∈ GG := List.mem_filter.mpr ⟨List.mem_of_getElem? (i := 504) (by decide +kernel), by decide +kernel⟩
theorem q505 : (.selects RX4 yX4_fire yX4_fire : Cond) ∈ GG := List.mem_filter.mpr ⟨List.mem_of_getElem? (i := 505) (by decide +kernel), by decide +kernel⟩
theorem q506 : (.code yX4_fire cX4_fire 4 (some .int) : Cond) ∈ GG := List.mem_filter.mpr ⟨List.mem_of_getElem? (i := 506) (by decide +kernel), by decide +kernel⟩
theorem q507 : (.methodLink RX4 181 yX4_dividedUp : Cond) ∈ GG := List.mem_filter.mpr ⟨List.mem_of_getElem? (i := 507) (by decide +kernel), by decide +kernel⟩
theorem q508 : (.methodLink RL 81 yX4_odds : Cond) ∈ GG := List.mem_filter.mpr ⟨List.mem_of_getElem? (i := 508) (by decide +kernel), by decide +kernel⟩
theorem q509 : (.instanceMethod yX4_odds : Cond) ∈ GG := List.mem_filter.mpr ⟨List.mem_of_getElem? (i := 509) (by decide +kernel), by decide +kernel⟩
theorem q510 : (.selects RX4 yX4_odds yX4_odds : Cond) ∈ GG := List.mem_filter.mpr ⟨List.mem_of_getElem? (i := 510) (by decide +kernel), by decide +kernel⟩
theorem q511 : (.code yX4_odds cX4_odds 9 (some .int) : Cond) ∈ GG := List.mem_filter.mpr ⟨List.mem_of_getElem? (i := 511) (by decide +kernel), by decide +kernel⟩
theorem q512 : (.methodLink RX4 184 yX4_rivalsOf : Cond) ∈ GG := List.mem_filter.mpr ⟨List.mem_of_getElem? (i := 512) (by decide +kernel), by decide +kernel⟩
theorem q514 : (.instanceMethod yX4_rivalsOf : Cond) ∈ GG := List.mem_filter.mpr ⟨List.mem_of_getElem? (i := 514) (by decide +kernel), by decide +kernel⟩
theorem q515 : (.code yX4_rivalsOf cX4_rivalsOf 7 (some .int) : Cond) ∈ GG := List.mem_filter.mpr ⟨List.mem_of_getElem? (i := 515) (by decide +kernel), by decide +kernel⟩
theorem q516 : (.methodLink RX4 187 yX4_commonDivisor : Cond) ∈ GG := List.mem_filter.mpr ⟨List.mem_of_getElem? (i := 516) (by decide +kernel), by decide +kernel⟩
theorem q517 : (.static yX4_commonDivisor : Cond) ∈ GG := List.mem_filter.mpr ⟨List.mem_of_getElem? (i := 517) (by decide +kernel), by decide +kernel⟩
theorem q518 : (.code yX4_commonDivisor cX4_commonDivisor 6 (some .int) : Cond) ∈ GG := List.mem_filter.mpr ⟨List.mem_of_getElem? (i := 518) (by decide +kernel), by decide +kernel⟩
theorem q519 : (.methodLink RL 86 yX4_led : Cond) ∈ GG := List.mem_filter.mpr ⟨List.mem_of_getElem? (i := 519) (by decide +kernel), by decide +kernel⟩
theorem q520 : (.instanceMethod yX4_led : Cond) ∈ GG := List.mem_filter.mpr ⟨List.mem_of_getElem? (i := 520) (by decide +kernel), by decide +kernel⟩
theorem q521 : (.selects RX4 yX4_led yX4_led : Cond) ∈ GG := List.mem_filter.mpr ⟨List.mem_of_getElem? (i := 521) (by decide +kernel), by decide +kernel⟩
theorem q522 : (.code yX4_led cX4_led 3 (some .int) : Cond) ∈ GG := List.mem_filter.mpr ⟨List.mem_of_getElem? (i := 522) (by decide +kernel), by decide +kernel⟩
theorem q523 : (.methodLink RL 90 yX4_forget : Cond) ∈ GG := List.mem_filter.mpr ⟨List.mem_of_getElem? (i := 523) (by decide +kernel), by decide +kernel⟩
theorem q524 : (.instanceMethod yX4_forget : Cond) ∈ GG := List.mem_filter.mpr ⟨List.mem_of_getElem? (i := 524) (by decide +kernel), by decide +kernel⟩
theorem q525 : (.selects RX4 yX4_forget yX4_forget : Cond) ∈ GG := List.mem_filter.mpr ⟨List.mem_of_getElem? (i := 525) (by decide +kernel), by decide +kernel⟩
theorem q526 : (.code yX4_forget cX4_forget 2 (some .int) : Cond) ∈ GG := List.mem_filter.mpr ⟨List.mem_of_getElem? (i := 526) (by decide +kernel), by decide +kernel⟩
theorem q527 : (.methodLink RL 94 yX4_vanilla : Cond) ∈ GG := List.mem_filter.mpr ⟨List.mem_of_getElem? (i := 527) (by decide +kernel), by decide +kernel⟩
theorem q528 : (.instanceMethod yX4_vanilla : Cond) ∈ GG := List.mem_filter.mpr ⟨List.mem_of_getElem? (i := 528) (by decide +kernel), by decide +kernel⟩
theorem q529 : (.selects RX4 yX4_vanilla yX4_vanilla : Cond) ∈ GG := List.mem_filter.mpr ⟨List.mem_of_getElem? (i := 529) (by decide +kernel), by decide +kernel⟩
theorem q530 : (.code yX4_vanilla cX4_vanilla 3 (some .int) : Cond) ∈ GG := List.mem_filter.mpr ⟨List.mem_of_getElem? (i := 530) (by decide +kernel), by decide +kernel⟩
theorem q531 : (.methodLink RX4 190 yX4_allLedWith : Cond) ∈ GG := List.mem_filter.mpr ⟨List.mem_of_getElem? (i := 531) (by decide +kernel), by decide +kernel⟩
theorem q533 : (.instanceMethod yX4_allLedWith : Cond) ∈ GG := List.mem_filter.mpr ⟨List.mem_of_getElem? (i := 533) (by decide +kernel), by decide +kernel⟩
theorem q534 : (.code yX4_allLedWith cX4_allLedWith 4 (some .boolean) : Cond) ∈ GG := List.mem_filter.mpr ⟨List.mem_of_getElem? (i := 534) (by decide +kernel), by decide +kernel⟩
theorem q535 : (.methodLink RL 98 yX4_mark : Cond) ∈ GG := List.mem_filter.mpr ⟨List.mem_of_getElem? (i := 535) (by decide +kernel), by decide +kernel⟩
theorem q536 : (.instanceMethod yX4_mark : Cond) ∈ GG := List.mem_filter.mpr ⟨List.mem_of_getElem? (i := 536) (by decide +kernel), by decide +kernel⟩
theorem q537 : (.selects RX4 yX4_mark yX4_mark : Cond) ∈ GG := List.mem_filter.mpr ⟨List.mem_of_getElem? (i := 537) (by decide +kernel), by decide +kernel⟩
theorem q538 : (.code yX4_mark cX4_mark 3 (some .int) : Cond) ∈ GG := List.mem_filter.mpr ⟨List.mem_of_getElem? (i := 538) (by decide +kernel), by decide +kernel⟩
theorem q539 : (.methodLink RX4 196 yX4_asDough : Cond) ∈ GG := List.mem_filter.mpr ⟨List.mem_of_getElem? (i := 539) (by decide +kernel), by decide +kernel⟩
theorem q541 : (.instanceMethod yX4_asDough : Cond) ∈ GG := List.mem_filter.mpr ⟨List.mem_of_getElem? (i := 541) (by decide +kernel), by decide +kernel⟩
theorem q542 : (.code yX4_asDough cX4_asDough 2 (some .int) : Cond) ∈ GG := List.mem_filter.mpr ⟨List.mem_of_getElem? (i := 542) (by decide +kernel), by decide +kernel⟩
theorem q543 : (.methodLink RX4 199 yX4_asCake : Cond) ∈ GG := List.mem_filter.mpr ⟨List.mem_of_getElem? (i := 543) (by decide +kernel), by decide +kernel⟩
theorem q545 : (.instanceMethod yX4_asCake : Cond) ∈ GG := List.mem_filter.mpr ⟨List.mem_of_getElem? (i := 545) (by decide +kernel), by decide +kernel⟩
theorem q546 : (.code yX4_asCake cX4_asCake 2 (some .int) : Cond) ∈ GG := List.mem_filter.mpr ⟨List.mem_of_getElem? (i := 546) (by decide +kernel), by decide +kernel⟩
theorem q547 : (.constantLong RX4 228 (10) : Cond) ∈ GG := List.mem_filter.mpr ⟨List.mem_of_getElem? (i := 547) (by decide +kernel), by decide +kernel⟩
theorem q548 : (.methodLink RX4 202 yX4_asHerring : Cond) ∈ GG := List.mem_filter.mpr ⟨List.mem_of_getElem? (i := 548) (by decide +kernel), by decide +kernel⟩
theorem q550 : (.instanceMethod yX4_asHerring : Cond) ∈ GG := List.mem_filter.mpr ⟨List.mem_of_getElem? (i := 550) (by decide +kernel), by decide +kernel⟩
theorem q551 : (.code yX4_asHerring cX4_asHerring 2 (some .int) : Cond) ∈ GG := List.mem_filter.mpr ⟨List.mem_of_getElem? (i := 551) (by decide +kernel), by decide +kernel⟩
theorem q552 : (.constantLong RX4 230 (100) : Cond) ∈ GG := List.mem_filter.mpr ⟨List.mem_of_getElem? (i := 552) (by decide +kernel), by decide +kernel⟩
theorem q553 : (.methodLink RX4 205 yX4_asBride : Cond) ∈ GG := List.mem_filter.mpr ⟨List.mem_of_getElem? (i := 553) (by decide +kernel), by decide +kernel⟩
theorem q555 : (.instanceMethod yX4_asBride : Cond) ∈ GG := List.mem_filter.mpr ⟨List.mem_of_getElem? (i := 555) (by decide +kernel), by decide +kernel⟩
theorem q556 : (.code yX4_asBride cX4_asBride 2 (some .int) : Cond) ∈ GG := List.mem_filter.mpr ⟨List.mem_of_getElem? (i := 556) (by decide +kernel), by decide +kernel⟩
theorem q557 : (.constantLong RX4 232 (1000) : Cond) ∈ GG := List.mem_filter.mpr ⟨List.mem_of_getElem? (i := 557) (by decide +kernel), by decide +kernel⟩
theorem q558 : (.methodLink RX4 208 yX4_asWidow : Cond) ∈ GG := List.mem_filter.mpr ⟨List.mem_of_getElem? (i := 558) (by decide +kernel), by decide +kernel⟩
theorem q560 : (.instanceMethod yX4_asWidow : Cond) ∈ GG := List.mem_filter.mpr ⟨List.mem_of_getElem? (i := 560) (by decide +kernel), by decide +kernel⟩
theorem q561 : (.code yX4_asWidow cX4_asWidow 2 (some .int) : Cond) ∈ GG := List.mem_filter.mpr ⟨List.mem_of_getElem? (i := 561) (by decide +kernel), by decide +kernel⟩
theorem q562 : (.constantLong RX4 234 (10000) : Cond) ∈ GG := List.mem_filter.mpr ⟨List.mem_of_getElem? (i := 562) (by decide +kernel), by decide +kernel⟩
theorem q563 : (.methodLink RX4 211 yX4_asSniff : Cond) ∈ GG := List.mem_filter.mpr ⟨List.mem_of_getElem? (i := 563) (by decide +kernel), by decide +kernel⟩
theorem q565 : (.instanceMethod yX4_asSniff : Cond) ∈ GG := List.mem_filter.mpr ⟨List.mem_of_getElem? (i := 565) (by decide +kernel), by decide +kernel⟩
theorem q566 : (.code yX4_asSniff cX4_asSniff 2 (some .int) : Cond) ∈ GG := List.mem_filter.mpr ⟨List.mem_of_getElem? (i := 566) (by decide +kernel), by decide +kernel⟩
theorem q567 : (.constantLong RX4 236 (100000) : Cond) ∈ GG := List.mem_filter.mpr ⟨List.mem_of_getElem? (i := 567) (by decide +kernel), by decide +kernel⟩
theorem q568 : (.methodLink RL 102 yX4_keep : Cond) ∈ GG := List.mem_filter.mpr ⟨List.mem_of_getElem? (i := 568) (by decide +kernel), by decide +kernel⟩
theorem q569 : (.instanceMethod yX4_keep : Cond) ∈ GG := List.mem_filter.mpr ⟨List.mem_of_getElem? (i := 569) (by decide +kernel), by decide +kernel⟩
theorem q570 : (.selects RX4 yX4_keep yX4_keep : Cond) ∈ GG := List.mem_filter.mpr ⟨List.mem_of_getElem? (i := 570) (by decide +kernel), by decide +kernel⟩
theorem q571 : (.code yX4_keep cX4_keep 2 (some .int) : Cond) ∈ GG := List.mem_filter.mpr ⟨List.mem_of_getElem? (i := 571) (by decide +kernel), by decide +kernel⟩
theorem q572 : (.methodLink RX4 214 yX4_imageCourse : Cond) ∈ GG := List.mem_filter.mpr ⟨List.mem_of_getElem? (i := 572) (by decide +kernel), by decide +kernel⟩
theorem q574 : (.instanceMethod yX4_imageCourse : Cond) ∈ GG := List.mem_filter.mpr ⟨List.mem_of_getElem? (i := 574) (by decide +kernel), by decide +kernel⟩
theorem q575 : (.code yX4_imageCourse cX4_imageCourse 2 (some (.object "OvenNoses$Course")) : Cond) ∈ GG := List.mem_filter.mpr ⟨List.mem_of_getElem? (i := 575) (by decide +kernel), by decide +kernel⟩
theorem q576 : (.methodLink RX4 218 yX0_copyAll : Cond) ∈ GG := List.mem_filter.mpr ⟨List.mem_of_getElem? (i := 576) (by decide +kernel), by decide +kernel⟩
theorem q577 : (.instanceMethod yX0_copyAll : Cond) ∈ GG := List.mem_filter.mpr ⟨List.mem_of_getElem? (i := 577) (by decide +kernel), by decide +kernel⟩
theorem q578 : (.selects RX0 yX0_copyAll yX0_copyAll : Cond) ∈ GG := List.mem_filter.mpr ⟨List.mem_of_getElem? (i := 578) (by decide +kernel), by decide +kernel⟩
theorem q579 : (.code yX0_copyAll cX0_copyAll 2 none : Cond) ∈ GG := List.mem_filter.mpr ⟨List.mem_of_getElem? (i := 579) (by decide +kernel), by decide +kernel⟩
theorem q580 : (.methodLink RL 106 yX4_back : Cond) ∈ GG := List.mem_filter.mpr ⟨List.mem_of_getElem? (i := 580) (by decide +kernel), by decide +kernel⟩
theorem q581 : (.instanceMethod yX4_back : Cond) ∈ GG := List.mem_filter.mpr ⟨List.mem_of_getElem? (i := 581) (by decide +kernel), by decide +kernel⟩
theorem q582 : (.selects RX4 yX4_back yX4_back : Cond) ∈ GG := List.mem_filter.mpr ⟨List.mem_of_getElem? (i := 582) (by decide +kernel), by decide +kernel⟩
theorem q583 : (.code yX4_back cX4_back 2 (some .int) : Cond) ∈ GG := List.mem_filter.mpr ⟨List.mem_of_getElem? (i := 583) (by decide +kernel), by decide +kernel⟩
theorem q584 : (.methodLink RL 110 yX4_count : Cond) ∈ GG := List.mem_filter.mpr ⟨List.mem_of_getElem? (i := 584) (by decide +kernel), by decide +kernel⟩
theorem q585 : (.instanceMethod yX4_count : Cond) ∈ GG := List.mem_filter.mpr ⟨List.mem_of_getElem? (i := 585) (by decide +kernel), by decide +kernel⟩
theorem q586 : (.selects RX4 yX4_count yX4_count : Cond) ∈ GG := List.mem_filter.mpr ⟨List.mem_of_getElem? (i := 586) (by decide +kernel), by decide +kernel⟩
theorem q587 : (.code yX4_count cX4_count 2 (some .int) : Cond) ∈ GG := List.mem_filter.mpr ⟨List.mem_of_getElem? (i := 587) (by decide +kernel), by decide +kernel⟩
theorem q588 : (.methodLink RL 114 yX4_trace : Cond) ∈ GG := List.mem_filter.mpr ⟨List.mem_of_getElem? (i := 588) (by decide +kernel), by decide +kernel⟩
theorem q589 : (.instanceMethod yX4_trace : Cond) ∈ GG := List.mem_filter.mpr ⟨List.mem_of_getElem? (i := 589) (by decide +kernel), by decide +kernel⟩
theorem q590 : (.selects RX4 yX4_trace yX4_trace : Cond) ∈ GG := List.mem_filter.mpr ⟨List.mem_of_getElem? (i := 590) (by decide +kernel), by decide +kernel⟩
theorem q591 : (.code yX4_trace cX4_trace 1 (some .long) : Cond) ∈ GG := List.mem_filter.mpr ⟨List.mem_of_getElem? (i := 591) (by decide +kernel), by decide +kernel⟩
theorem q592 : (.classLink RL 10 RX5 : Cond) ∈ GG := List.mem_filter.mpr ⟨List.mem_of_getElem? (i := 592) (by decide +kernel), by decide +kernel⟩
theorem q593 : (.instantiable RX5 17 : Cond) ∈ GG := List.mem_filter.mpr ⟨List.mem_of_getElem? (i := 593) (by decide +kernel), by decide +kernel⟩
theorem q594 : (.methodLink RL 12 yX5_init : Cond) ∈ GG := List.mem_filter.mpr ⟨List.mem_of_getElem? (i := 594) (by decide +kernel), by decide +kernel⟩
theorem q595 : (.instanceMethod yX5_init : Cond) ∈ GG := List.mem_filter.mpr ⟨List.mem_of_getElem? (i := 595) (by decide +kernel), by decide +kernel⟩
theorem q596 : (.code yX5_init cX5_init 1 none : Cond) ∈ GG := List.mem_filter.mpr ⟨List.mem_of_getElem? (i := 596) (by decide +kernel), by decide +kernel⟩
theorem q597 : (.methodLink RX5 1 objectInit : Cond) ∈ GG := List.mem_filter.mpr ⟨List.mem_of_getElem? (i := 597) (by decide +kernel), by decide +kernel⟩
theorem q598 : (.methodLink RX5 42 yX5_reads : Cond) ∈ GG := List.mem_filter.mpr ⟨List.mem_of_getElem? (i := 598) (by decide +kernel), by decide +kernel⟩
theorem q600 : (.instanceMethod yX5_reads : Cond) ∈ GG := List.mem_filter.mpr ⟨List.mem_of_getElem? (i := 600) (by decide +kernel), by decide +kernel⟩
theorem q601 : (.code yX5_reads cX5_reads 2 (some .boolean) : Cond) ∈ GG := List.mem_filter.mpr ⟨List.mem_of_getElem? (i := 601) (by decide +kernel), by decide +kernel⟩
theorem q602 : (.methodLink RX5 79 yX5_token : Cond) ∈ GG := List.mem_filter.mpr ⟨List.mem_of_getElem? (i := 602) (by decide +kernel), by decide +kernel⟩
theorem q604 : (.instanceMethod yX5_token : Cond) ∈ GG := List.mem_filter.mpr ⟨List.mem_of_getElem? (i := 604) (by decide +kernel), by decide +kernel⟩
theorem q605 : (.code yX5_token cX5_token 2 none : Cond) ∈ GG := List.mem_filter.mpr ⟨List.mem_of_getElem? (i := 605) (by decide +kernel), by decide +kernel⟩
theorem q606 : (.methodLink RX5 59 yX5_letterAt : Cond) ∈ GG := List.mem_filter.mpr ⟨List.mem_of_getElem? (i := 606) (by decide +kernel), by decide +kernel⟩
theorem q608 : (.instanceMethod yX5_letterAt : Cond) ∈ GG := List.mem_filter.mpr ⟨List.mem_of_getElem? (i := 608) (by decide +kernel), by decide +kernel⟩
theorem q609 : (.code yX5_letterAt cX5_letterAt 2 (some .int) : Cond) ∈ GG := List.mem_filter.mpr ⟨List.mem_of_getElem? (i := 609) (by decide +kernel), by decide +kernel⟩
theorem q610 : (.methodLink RX5 66 yX5_isLetter : Cond) ∈ GG := List.mem_filter.mpr ⟨List.mem_of_getElem? (i := 610) (by decide +kernel), by decide +kernel⟩
theorem q611 : (.static yX5_isLetter : Cond) ∈ GG := List.mem_filter.mpr ⟨List.mem_of_getElem? (i := 611) (by decide +kernel), by decide +kernel⟩
theorem q612 : (.code yX5_isLetter cX5_isLetter 1 (some .boolean) : Cond) ∈ GG := List.mem_filter.mpr ⟨List.mem_of_getElem? (i := 612) (by decide +kernel), by decide +kernel⟩
theorem q613 : (.methodLink RX5 49 yX5_in : Cond) ∈ GG := List.mem_filter.mpr ⟨List.mem_of_getElem? (i := 613) (by decide +kernel), by decide +kernel⟩
theorem q614 : (.static yX5_in : Cond) ∈ GG := List.mem_filter.mpr ⟨List.mem_of_getElem? (i := 614) (by decide +kernel), by decide +kernel⟩
theorem q615 : (.code yX5_in cX5_in 3 (some .boolean) : Cond) ∈ GG := List.mem_filter.mpr ⟨List.mem_of_getElem? (i := 615) (by decide +kernel), by decide +kernel⟩
theorem q616 : (.methodLink RX5 70 yX5_isDigit : Cond) ∈ GG := List.mem_filter.mpr ⟨List.mem_of_getElem? (i := 616) (by decide +kernel), by decide +kernel⟩
theorem q617 : (.static yX5_isDigit : Cond) ∈ GG := List.mem_filter.mpr ⟨List.mem_of_getElem? (i := 617) (by decide +kernel), by decide +kernel⟩
theorem q618 : (.code yX5_isDigit cX5_isDigit 1 (some .boolean) : Cond) ∈ GG := List.mem_filter.mpr ⟨List.mem_of_getElem? (i := 618) (by decide +kernel), by decide +kernel⟩
theorem q619 : (.methodLink RX5 85 yX5_readsItem : Cond) ∈ GG := List.mem_filter.mpr ⟨List.mem_of_getElem? (i := 619) (by decide +kernel), by decide +kernel⟩
theorem q621 : (.instanceMethod yX5_readsItem : Cond) ∈ GG := List.mem_filter.mpr ⟨List.mem_of_getElem? (i := 621) (by decide +kernel), by decide +kernel⟩
theorem q622 : (.code yX5_readsItem cX5_readsItem 3 (some .boolean) : Cond) ∈ GG := List.mem_filter.mpr ⟨List.mem_of_getElem? (i := 622) (by decide +kernel), by decide +kernel⟩
theorem q623 : (.methodLink RX5 82 yX5_number : Cond) ∈ GG := List.mem_filter.mpr ⟨List.mem_of_getElem? (i := 623) (by decide +kernel), by decide +kernel⟩
theorem q625 : (.instanceMethod yX5_number : Cond) ∈ GG := List.mem_filter.mpr ⟨List.mem_of_getElem? (i := 625) (by decide +kernel), by decide +kernel⟩
theorem q626 : (.code yX5_number cX5_number 4 (some .boolean) : Cond) ∈ GG := List.mem_filter.mpr ⟨List.mem_of_getElem? (i := 626) (by decide +kernel), by decide +kernel⟩
theorem q627 : (.methodLink RX5 46 yX5_begins : Cond) ∈ GG := List.mem_filter.mpr ⟨List.mem_of_getElem? (i := 627) (by decide +kernel), by decide +kernel⟩
theorem q629 : (.instanceMethod yX5_begins : Cond) ∈ GG := List.mem_filter.mpr ⟨List.mem_of_getElem? (i := 629) (by decide +kernel), by decide +kernel⟩
theorem q630 : (.code yX5_begins cX5_begins 2 none : Cond) ∈ GG := List.mem_filter.mpr ⟨List.mem_of_getElem? (i := 630) (by decide +kernel), by decide +kernel⟩
theorem q631 : (.fieldLink RX5 147 RX5 "trace" "J" : Cond) ∈ GG := List.mem_filter.mpr ⟨List.mem_of_getElem? (i := 631) (by decide +kernel), by decide +kernel⟩
theorem q632 : (.fieldLink RX5 7 RX5 "text" "[I" : Cond) ∈ GG := List.mem_filter.mpr ⟨List.mem_of_getElem? (i := 632) (by decide +kernel), by decide +kernel⟩
theorem q633 : (.fieldLink RX5 53 RX5 "typed" "I" : Cond) ∈ GG := List.mem_filter.mpr ⟨List.mem_of_getElem? (i := 633) (by decide +kernel), by decide +kernel⟩
theorem q634 : (.fieldLink RX5 13 RX5 "told" "[I" : Cond) ∈ GG := List.mem_filter.mpr ⟨List.mem_of_getElem? (i := 634) (by decide +kernel), by decide +kernel⟩
theorem q635 : (.fieldLink RX5 16 RX5 "draft" "[I" : Cond) ∈ GG := List.mem_filter.mpr ⟨List.mem_of_getElem? (i := 635) (by decide +kernel), by decide +kernel⟩
theorem q636 : (.fieldLink RX5 19 RX5 "s" "[I" : Cond) ∈ GG := List.mem_filter.mpr ⟨List.mem_of_getElem? (i := 636) (by decide +kernel), by decide +kernel⟩
theorem q637 : (.fieldLink RX5 22 RX5 "images" "[I" : Cond) ∈ GG := List.mem_filter.mpr ⟨List.mem_of_getElem? (i := 637) (by decide +kernel), by decide +kernel⟩
theorem q638 : (.fieldLink RX5 25 RX5 "kept" "[Z" : Cond) ∈ GG := List.mem_filter.mpr ⟨List.mem_of_getElem? (i := 638) (by decide +kernel), by decide +kernel⟩
theorem q639 : (.fieldLink RX5 29 RX5 "notes" "[I" : Cond) ∈ GG := List.mem_filter.mpr ⟨List.mem_of_getElem? (i := 639) (by decide +kernel), by decide +kernel⟩
theorem q640 : (.fieldLink RX5 88 RX5 "noted" "I" : Cond) ∈ GG := List.mem_filter.mpr ⟨List.mem_of_getElem? (i := 640) (by decide +kernel), by decide +kernel⟩
theorem q641 : (.fieldLink RX5 56 RX5 "at" "I" : Cond) ∈ GG := List.mem_filter.mpr ⟨List.mem_of_getElem? (i := 641) (by decide +kernel), by decide +kernel⟩
theorem q642 : (.fieldLink RX5 73 RX5 "sort" "I" : Cond) ∈ GG := List.mem_filter.mpr ⟨List.mem_of_getElem? (i := 642) (by decide +kernel), by decide +kernel⟩
theorem q643 : (.fieldLink RX5 63 RX5 "start" "I" : Cond) ∈ GG := List.mem_filter.mpr ⟨List.mem_of_getElem? (i := 643) (by decide +kernel), by decide +kernel⟩
theorem q644 : (.fieldLink RX5 76 RX5 "value" "I" : Cond) ∈ GG := List.mem_filter.mpr ⟨List.mem_of_getElem? (i := 644) (by decide +kernel), by decide +kernel⟩
theorem q645 : (.fieldLink RX5 32 RX5 "vanillaIn" "I" : Cond) ∈ GG := List.mem_filter.mpr ⟨List.mem_of_getElem? (i := 645) (by decide +kernel), by decide +kernel⟩
theorem q646 : (.fieldLink RX5 36 RX5 "held" "[I" : Cond) ∈ GG := List.mem_filter.mpr ⟨List.mem_of_getElem? (i := 646) (by decide +kernel), by decide +kernel⟩
theorem q647 : (.fieldLink RX5 39 RX5 "soonest" "[I" : Cond) ∈ GG := List.mem_filter.mpr ⟨List.mem_of_getElem? (i := 647) (by decide +kernel), by decide +kernel⟩
theorem q683 : (.arrayClass .boolean : Cond) ∈ GG := List.mem_filter.mpr ⟨List.mem_of_getElem? (i := 683) (by decide +kernel), by decide +kernel⟩
theorem q684 : (.methodLink RL 17 yX5_type : Cond) ∈ GG := List.mem_filter.mpr ⟨List.mem_of_getElem? (i := 684) (by decide +kernel), by decide +kernel⟩
theorem q685 : (.instanceMethod yX5_type : Cond) ∈ GG := List.mem_filter.mpr ⟨List.mem_of_getElem? (i := 685) (by decide +kernel), by decide +kernel⟩
theorem q686 : (.selects RX5 yX5_type yX5_type : Cond) ∈ GG := List.mem_filter.mpr ⟨List.mem_of_getElem? (i := 686) (by decide +kernel), by decide +kernel⟩
theorem q687 : (.code yX5_type cX5_type 2 (some .int) : Cond) ∈ GG := List.mem_filter.mpr ⟨List.mem_of_getElem? (i := 687) (by decide +kernel), by decide +kernel⟩
theorem q688 : (.methodLink RL 22 yX5_clear : Cond) ∈ GG := List.mem_filter.mpr ⟨List.mem_of_getElem? (i := 688) (by decide +kernel), by decide +kernel⟩
theorem q689 : (.instanceMethod yX5_clear : Cond) ∈ GG := List.mem_filter.mpr ⟨List.mem_of_getElem? (i := 689) (by decide +kernel), by decide +kernel⟩
theorem q690 : (.selects RX5 yX5_clear yX5_clear : Cond) ∈ GG := List.mem_filter.mpr ⟨List.mem_of_getElem? (i := 690) (by decide +kernel), by decide +kernel⟩
theorem q691 : (.code yX5_clear cX5_clear 2 (some .int) : Cond) ∈ GG := List.mem_filter.mpr ⟨List.mem_of_getElem? (i := 691) (by decide +kernel), by decide +kernel⟩
theorem q692 : (.methodLink RL 26 yX5_quarter : Cond) ∈ GG := List.mem_filter.mpr ⟨List.mem_of_getElem? (i := 692) (by decide +kernel), by decide +kernel⟩
theorem q693 : (.instanceMethod yX5_quarter : Cond) ∈ GG := List.mem_filter.mpr ⟨List.mem_of_getElem? (i := 693) (by decide +kernel), by decide +kernel⟩
theorem q694 : (.selects RX5 yX5_quarter yX5_quarter : Cond) ∈ GG := List.mem_filter.mpr ⟨List.mem_of_getElem? (i := 694) (by decide +kernel), by decide +kernel⟩
theorem q695 : (.code yX5_quarter cX5_quarter 1 (some .int) : Cond) ∈ GG := List.mem_filter.mpr ⟨List.mem_of_getElem? (i := 695) (by decide +kernel), by decide +kernel⟩
theorem q696 : (.methodLink RL 31 yX5_oven : Cond) ∈ GG := List.mem_filter.mpr ⟨List.mem_of_getElem? (i := 696) (by decide +kernel), by decide +kernel⟩
theorem q697 : (.instanceMethod yX5_oven : Cond) ∈ GG := List.mem_filter.mpr ⟨List.mem_of_getElem? (i := 697) (by decide +kernel), by decide +kernel⟩
theorem q698 : (.selects RX5 yX5_oven yX5_oven : Cond) ∈ GG := List.mem_filter.mpr ⟨List.mem_of_getElem? (i := 698) (by decide +kernel), by decide +kernel⟩
theorem q699 : (.code yX5_oven cX5_oven 3 (some .int) : Cond) ∈ GG := List.mem_filter.mpr ⟨List.mem_of_getElem? (i := 699) (by decide +kernel), by decide +kernel⟩
theorem q700 : (.methodLink RX5 97 yX5_isOven : Cond) ∈ GG := List.mem_filter.mpr ⟨List.mem_of_getElem? (i := 700) (by decide +kernel), by decide +kernel⟩
theorem q702 : (.instanceMethod yX5_isOven : Cond) ∈ GG := List.mem_filter.mpr ⟨List.mem_of_getElem? (i := 702) (by decide +kernel), by decide +kernel⟩
theorem q703 : (.code yX5_isOven cX5_isOven 2 (some .boolean) : Cond) ∈ GG := List.mem_filter.mpr ⟨List.mem_of_getElem? (i := 703) (by decide +kernel), by decide +kernel⟩
theorem q704 : (.constant RX5 100 (-1000000) : Cond) ∈ GG := List.mem_filter.mpr ⟨List.mem_of_getElem? (i := 704) (by decide +kernel), by decide +kernel⟩
theorem q705 : (.methodLink RX5 91 yX5_whereAll : Cond) ∈ GG := List.mem_filter.mpr ⟨List.mem_of_getElem? (i := 705) (by decide +kernel), by decide +kernel⟩
theorem q707 : (.instanceMethod yX5_whereAll : Cond) ∈ GG := List.mem_filter.mpr ⟨List.mem_of_getElem? (i := 707) (by decide +kernel), by decide +kernel⟩
theorem q708 : (.code yX5_whereAll cX5_whereAll 4 (some .int) : Cond) ∈ GG := List.mem_filter.mpr ⟨List.mem_of_getElem? (i := 708) (by decide +kernel), by decide +kernel⟩
theorem q709 : (.methodLink RX5 101 yX5_hot : Cond) ∈ GG := List.mem_filter.mpr ⟨List.mem_of_getElem? (i := 709) (by decide +kernel), by decide +kernel⟩
theorem q711 : (.instanceMethod yX5_hot : Cond) ∈ GG := List.mem_filter.mpr ⟨List.mem_of_getElem? (i := 711) (by decide +kernel), by decide +kernel⟩
theorem q712 : (.code yX5_hot cX5_hot 2 (some .int) : Cond) ∈ GG := List.mem_filter.mpr ⟨List.mem_of_getElem? (i := 712) (by decide +kernel), by decide +kernel⟩
theorem q713 : (.methodLink RX5 94 yX5_ones : Cond) ∈ GG := List.mem_filter.mpr ⟨List.mem_of_getElem? (i := 713) (by decide +kernel), by decide +kernel⟩
theorem q714 : (.static yX5_ones : Cond) ∈ GG := List.mem_filter.mpr ⟨List.mem_of_getElem? (i := 714) (by decide +kernel), by decide +kernel⟩
theorem q715 : (.code yX5_ones cX5_ones 3 (some .int) : Cond) ∈ GG := List.mem_filter.mpr ⟨List.mem_of_getElem? (i := 715) (by decide +kernel), by decide +kernel⟩
theorem q716 : (.methodLink RX5 104 yX5_isShut : Cond) ∈ GG := List.mem_filter.mpr ⟨List.mem_of_getElem? (i := 716) (by decide +kernel), by decide +kernel⟩
theorem q718 : (.instanceMethod yX5_isShut : Cond) ∈ GG := List.mem_filter.mpr ⟨List.mem_of_getElem? (i := 718) (by decide +kernel), by decide +kernel⟩
theorem q719 : (.code yX5_isShut cX5_isShut 2 (some .boolean) : Cond) ∈ GG := List.mem_filter.mpr ⟨List.mem_of_getElem? (i := 719) (by decide +kernel), by decide +kernel⟩
theorem q720 : (.methodLink RL 35 yX5_dough : Cond) ∈ GG := List.mem_filter.mpr ⟨List.mem_of_getElem? (i := 720) (by decide +kernel), by decide +kernel⟩
theorem q721 : (.instanceMethod yX5_dough : Cond) ∈ GG := List.mem_filter.mpr ⟨List.mem_of_getElem? (i := 721) (by decide +kernel), by decide +kernel⟩
theorem q722 : (.selects RX5 yX5_dough yX5_dough : Cond) ∈ GG := List.mem_filter.mpr ⟨List.mem_of_getElem? (i := 722) (by decide +kernel), by decide +kernel⟩
theorem q723 : (.code yX5_dough cX5_dough 3 (some .int) : Cond) ∈ GG := List.mem_filter.mpr ⟨List.mem_of_getElem? (i := 723) (by decide +kernel), by decide +kernel⟩
theorem q724 : (.methodLink RX5 111 yX5_isDough : Cond) ∈ GG := List.mem_filter.mpr ⟨List.mem_of_getElem? (i := 724) (by decide +kernel), by decide +kernel⟩
theorem q726 : (.instanceMethod yX5_isDough : Cond) ∈ GG := List.mem_filter.mpr ⟨List.mem_of_getElem? (i := 726) (by decide +kernel), by decide +kernel⟩
theorem q727 : (.code yX5_isDough cX5_isDough 2 (some .boolean) : Cond) ∈ GG := List.mem_filter.mpr ⟨List.mem_of_getElem? (i := 727) (by decide +kernel), by decide +kernel⟩
theorem q728 : (.methodLink RX5 114 yX5_isOut : Cond) ∈ GG := List.mem_filter.mpr ⟨List.mem_of_getElem? (i := 728) (by decide +kernel), by decide +kernel⟩
theorem q730 : (.instanceMethod yX5_isOut : Cond) ∈ GG := List.mem_filter.mpr ⟨List.mem_of_getElem? (i := 730) (by decide +kernel), by decide +kernel⟩
theorem q731 : (.code yX5_isOut cX5_isOut 2 (some .boolean) : Cond) ∈ GG := List.mem_filter.mpr ⟨List.mem_of_getElem? (i := 731) (by decide +kernel), by decide +kernel⟩
theorem q732 : (.methodLink RX5 117 yX5_noseOf : Cond) ∈ GG := List.mem_filter.mpr ⟨List.mem_of_getElem? (i := 732) (by decide +kernel), by decide +kernel⟩
theorem q734 : (.instanceMethod yX5_noseOf : Cond) ∈ GG := List.mem_filter.mpr ⟨List.mem_of_getElem? (i := 734) (by decide +kernel), by decide +kernel⟩
theorem q735 : (.code yX5_noseOf cX5_noseOf 7 (some .int) : Cond) ∈ GG := List.mem_filter.mpr ⟨List.mem_of_getElem? (i := 735) (by decide +kernel), by decide +kernel⟩
theorem q736 : (.methodLink RX5 107 yX5_smellOf : Cond) ∈ GG := List.mem_filter.mpr ⟨List.mem_of_getElem? (i := 736) (by decide +kernel), by decide +kernel⟩
theorem q738 : (.instanceMethod yX5_smellOf : Cond) ∈ GG := List.mem_filter.mpr ⟨List.mem_of_getElem? (i := 738) (by decide +kernel), by decide +kernel⟩
theorem q739 : (.code yX5_smellOf cX5_smellOf 6 (some .int) : Cond) ∈ GG := List.mem_filter.mpr ⟨List.mem_of_getElem? (i := 739) (by decide +kernel), by decide +kernel⟩
theorem q740 : (.methodLink RL 39 yX5_smell : Cond) ∈ GG := List.mem_filter.mpr ⟨List.mem_of_getElem? (i := 740) (by decide +kernel), by decide +kernel⟩
theorem q741 : (.instanceMethod yX5_smell : Cond) ∈ GG := List.mem_filter.mpr ⟨List.mem_of_getElem? (i := 741) (by decide +kernel), by decide +kernel⟩
theorem q742 : (.selects RX5 yX5_smell yX5_smell : Cond) ∈ GG := List.mem_filter.mpr ⟨List.mem_of_getElem? (i := 742) (by decide +kernel), by decide +kernel⟩
theorem q743 : (.code yX5_smell cX5_smell 3 (some .int) : Cond) ∈ GG := List.mem_filter.mpr ⟨List.mem_of_getElem? (i := 743) (by decide +kernel), by decide +kernel⟩
theorem q744 : (.methodLink RL 43 yX5_follows : Cond) ∈ GG := List.mem_filter.mpr ⟨List.mem_of_getElem? (i := 744) (by decide +kernel), by decide +kernel⟩
theorem q745 : (.instanceMethod yX5_follows : Cond) ∈ GG := List.mem_filter.mpr ⟨List.mem_of_getElem? (i := 745) (by decide +kernel), by decide +kernel⟩
theorem q746 : (.selects RX5 yX5_follows yX5_follows : Cond) ∈ GG := List.mem_filter.mpr ⟨List.mem_of_getElem? (i := 746) (by decide +kernel), by decide +kernel⟩
theorem q747 : (.code yX5_follows cX5_follows 3 (some .int) : Cond) ∈ GG := List.mem_filter.mpr ⟨List.mem_of_getElem? (i := 747) (by decide +kernel), by decide +kernel⟩
theorem q748 : (.methodLink RX5 120 yX5_mayGo : Cond) ∈ GG := List.mem_filter.mpr ⟨List.mem_of_getElem? (i := 748) (by decide +kernel), by decide +kernel⟩
theorem q750 : (.instanceMethod yX5_mayGo : Cond) ∈ GG := List.mem_filter.mpr ⟨List.mem_of_getElem? (i := 750) (by decide +kernel), by decide +kernel⟩
theorem q751 : (.code yX5_mayGo cX5_mayGo 2 (some .boolean) : Cond) ∈ GG := List.mem_filter.mpr ⟨List.mem_of_getElem? (i := 751) (by decide +kernel), by decide +kernel⟩
theorem q752 : (.methodLink RX5 123 yX5_keeps : Cond) ∈ GG := List.mem_filter.mpr ⟨List.mem_of_getElem? (i := 752) (by decide +kernel), by decide +kernel⟩
theorem q754 : (.instanceMethod yX5_keeps : Cond) ∈ GG := List.mem_filter.mpr ⟨List.mem_of_getElem? (i := 754) (by decide +kernel), by decide +kernel⟩
theorem q755 : (.code yX5_keeps cX5_keeps 3 none : Cond) ∈ GG := List.mem_filter.mpr ⟨List.mem_of_getElem? (i := 755) (by decide +kernel), by decide +kernel⟩
theorem q756 : (.methodLink RL 47 yX5_puts : Cond) ∈ GG := List.mem_filter.mpr ⟨List.mem_of_getElem? (i := 756) (by decide +kernel), by decide +kernel⟩
theorem q757 : (.instanceMethod yX5_puts : Cond) ∈ GG := List.mem_filter.mpr ⟨List.mem_of_getElem? (i := 757) (by decide +kernel), by decide +kernel⟩
theorem q758 : (.selects RX5 yX5_puts yX5_puts : Cond) ∈ GG := List.mem_filter.mpr ⟨List.mem_of_getElem? (i := 758) (by decide +kernel), by decide +kernel⟩
theorem q759 : (.code yX5_puts cX5_puts 3 (some .int) : Cond) ∈ GG := List.mem_filter.mpr ⟨List.mem_of_getElem? (i := 759) (by decide +kernel), by decide +kernel⟩
theorem q760 : (.methodLink RL 51 yX5_minutes : Cond) ∈ GG := List.mem_filter.mpr ⟨List.mem_of_getElem? (i := 760) (by decide +kernel), by decide +kernel⟩
theorem q761 : (.instanceMethod yX5_minutes : Cond) ∈ GG := List.mem_filter.mpr ⟨List.mem_of_getElem? (i := 761) (by decide +kernel), by decide +kernel⟩
theorem q762 : (.selects RX5 yX5_minutes yX5_minutes : Cond) ∈ GG := List.mem_filter.mpr ⟨List.mem_of_getElem? (i := 762) (by decide +kernel), by decide +kernel⟩
theorem q763 : (.code yX5_minutes cX5_minutes 4 (some .int) : Cond) ∈ GG := List.mem_filter.mpr ⟨List.mem_of_getElem? (i := 763) (by decide +kernel), by decide +kernel⟩
theorem q764 : (.methodLink RX5 126 yX5_passes : Cond) ∈ GG := List.mem_filter.mpr ⟨List.mem_of_getElem? (i := 764) (by decide +kernel), by decide +kernel⟩
theorem q766 : (.instanceMethod yX5_passes : Cond) ∈ GG := List.mem_filter.mpr ⟨List.mem_of_getElem? (i := 766) (by decide +kernel), by decide +kernel⟩
theorem q767 : (.code yX5_passes cX5_passes 3 (some .int) : Cond) ∈ GG := List.mem_filter.mpr ⟨List.mem_of_getElem? (i := 767) (by decide +kernel), by decide +kernel⟩
theorem q768 : (.methodLink RL 55 yX5_shuts : Cond) ∈ GG := List.mem_filter.mpr ⟨List.mem_of_getElem? (i := 768) (by decide +kernel), by decide +kernel⟩
theorem q769 : (.instanceMethod yX5_shuts : Cond) ∈ GG := List.mem_filter.mpr ⟨List.mem_of_getElem? (i := 769) (by decide +kernel), by decide +kernel⟩
theorem q770 : (.selects RX5 yX5_shuts yX5_shuts : Cond) ∈ GG := List.mem_filter.mpr ⟨List.mem_of_getElem? (i := 770) (by decide +kernel), by decide +kernel⟩
theorem q771 : (.code yX5_shuts cX5_shuts 3 (some .int) : Cond) ∈ GG := List.mem_filter.mpr ⟨List.mem_of_getElem? (i := 771) (by decide +kernel), by decide +kernel⟩
theorem q772 : (.methodLink RL 59 yX5_undo : Cond) ∈ GG := List.mem_filter.mpr ⟨List.mem_of_getElem? (i := 772) (by decide +kernel), by decide +kernel⟩
theorem q773 : (.instanceMethod yX5_undo : Cond) ∈ GG := List.mem_filter.mpr ⟨List.mem_of_getElem? (i := 773) (by decide +kernel), by decide +kernel⟩
theorem q774 : (.selects RX5 yX5_undo yX5_undo : Cond) ∈ GG := List.mem_filter.mpr ⟨List.mem_of_getElem? (i := 774) (by decide +kernel), by decide +kernel⟩
theorem q775 : (.code yX5_undo cX5_undo 3 (some .int) : Cond) ∈ GG := List.mem_filter.mpr ⟨List.mem_of_getElem? (i := 775) (by decide +kernel), by decide +kernel⟩
theorem q776 : (.methodLink RL 63 yX5_now : Cond) ∈ GG := List.mem_filter.mpr ⟨List.mem_of_getElem? (i := 776) (by decide +kernel), by decide +kernel⟩
theorem q777 : (.instanceMethod yX5_now : Cond) ∈ GG := List.mem_filter.mpr ⟨List.mem_of_getElem? (i := 777) (by decide +kernel), by decide +kernel⟩
theorem q778 : (.selects RX5 yX5_now yX5_now : Cond) ∈ GG := List.mem_filter.mpr ⟨List.mem_of_getElem? (i := 778) (by decide +kernel), by decide +kernel⟩
theorem q779 : (.code yX5_now cX5_now 4 (some .int) : Cond) ∈ GG := List.mem_filter.mpr ⟨List.mem_of_getElem? (i := 779) (by decide +kernel), by decide +kernel⟩
theorem q780 : (.methodLink RL 67 yX5_when : Cond) ∈ GG := List.mem_filter.mpr ⟨List.mem_of_getElem? (i := 780) (by decide +kernel), by decide +kernel⟩
theorem q781 : (.instanceMethod yX5_when : Cond) ∈ GG := List.mem_filter.mpr ⟨List.mem_of_getElem? (i := 781) (by decide +kernel), by decide +kernel⟩
theorem q782 : (.selects RX5 yX5_when yX5_when : Cond) ∈ GG := List.mem_filter.mpr ⟨List.mem_of_getElem? (i := 782) (by decide +kernel), by decide +kernel⟩
theorem q783 : (.code yX5_when cX5_when 4 (some .int) : Cond) ∈ GG := List.mem_filter.mpr ⟨List.mem_of_getElem? (i := 783) (by decide +kernel), by decide +kernel⟩
theorem q784 : (.methodLink RX5 130 yX5_holds : Cond) ∈ GG := List.mem_filter.mpr ⟨List.mem_of_getElem? (i := 784) (by decide +kernel), by decide +kernel⟩
theorem q786 : (.instanceMethod yX5_holds : Cond) ∈ GG := List.mem_filter.mpr ⟨List.mem_of_getElem? (i := 786) (by decide +kernel), by decide +kernel⟩
theorem q787 : (.code yX5_holds cX5_holds 2 none : Cond) ∈ GG := List.mem_filter.mpr ⟨List.mem_of_getElem? (i := 787) (by decide +kernel), by decide +kernel⟩
theorem q788 : (.methodLink RX5 133 yX5_lets : Cond) ∈ GG := List.mem_filter.mpr ⟨List.mem_of_getElem? (i := 788) (by decide +kernel), by decide +kernel⟩
theorem q790 : (.instanceMethod yX5_lets : Cond) ∈ GG := List.mem_filter.mpr ⟨List.mem_of_getElem? (i := 790) (by decide +kernel), by decide +kernel⟩
theorem q791 : (.code yX5_lets cX5_lets 2 none : Cond) ∈ GG := List.mem_filter.mpr ⟨List.mem_of_getElem? (i := 791) (by decide +kernel), by decide +kernel⟩
theorem q792 : (.methodLink RL 71 yX5_moved : Cond) ∈ GG := List.mem_filter.mpr ⟨List.mem_of_getElem? (i := 792) (by decide +kernel), by decide +kernel⟩
theorem q793 : (.instanceMethod yX5_moved : Cond) ∈ GG := List.mem_filter.mpr ⟨List.mem_of_getElem? (i := 793) (by decide +kernel), by decide +kernel⟩
theorem q794 : (.selects RX5 yX5_moved yX5_moved : Cond) ∈ GG := List.mem_filter.mpr ⟨List.mem_of_getElem? (i := 794) (by decide +kernel), by decide +kernel⟩
theorem q795 : (.code yX5_moved cX5_moved 4 (some .int) : Cond) ∈ GG := List.mem_filter.mpr ⟨List.mem_of_getElem? (i := 795) (by decide +kernel), by decide +kernel⟩
theorem q796 : (.methodLink RL 76 yX5_order : Cond) ∈ GG := List.mem_filter.mpr ⟨List.mem_of_getElem? (i := 796) (by decide +kernel), by decide +kernel⟩
theorem q797 : (.instanceMethod yX5_order : Cond) ∈ GG := List.mem_filter.mpr ⟨List.mem_of_getElem? (i := 797) (by decide +kernel), by decide +kernel⟩
theorem q798 : (.selects RX5 yX5_order yX5_order : Cond) ∈ GG := List.mem_filter.mpr ⟨List.mem_of_getElem? (i := 798) (by decide +kernel), by decide +kernel⟩
theorem q799 : (.code yX5_order cX5_order 12 (some .int) : Cond) ∈ GG := List.mem_filter.mpr ⟨List.mem_of_getElem? (i := 799) (by decide +kernel), by decide +kernel⟩
theorem q800 : (.methodLink RX5 140 yX5_reckons : Cond) ∈ GG := List.mem_filter.mpr ⟨List.mem_of_getElem? (i := 800) (by decide +kernel), by decide +kernel⟩
theorem q802 : (.instanceMethod yX5_reckons : Cond) ∈ GG := List.mem_filter.mpr ⟨List.mem_of_getElem? (i := 802) (by decide +kernel), by decide +kernel⟩
theorem q803 : (.code yX5_reckons cX5_reckons 10 none : Cond) ∈ GG := List.mem_filter.mpr ⟨List.mem_of_getElem? (i := 803) (by decide +kernel), by decide +kernel⟩
theorem q804 : (.methodLink RX5 136 yX5_doneBy : Cond) ∈ GG := List.mem_filter.mpr ⟨List.mem_of_getElem? (i := 804) (by decide +kernel), by decide +kernel⟩
theorem q806 : (.instanceMethod yX5_doneBy : Cond) ∈ GG := List.mem_filter.mpr ⟨List.mem_of_getElem? (i := 806) (by decide +kernel), by decide +kernel⟩
theorem q807 : (.code yX5_doneBy cX5_doneBy 8 (some .int) : Cond) ∈ GG := List.mem_filter.mpr ⟨List.mem_of_getElem? (i := 807) (by decide +kernel), by decide +kernel⟩
theorem q808 : (.methodLink RX5 144 yX5_soonestOf : Cond) ∈ GG := List.mem_filter.mpr ⟨List.mem_of_getElem? (i := 808) (by decide +kernel), by decide +kernel⟩
theorem q810 : (.instanceMethod yX5_soonestOf : Cond) ∈ GG := List.mem_filter.mpr ⟨List.mem_of_getElem? (i := 810) (by decide +kernel), by decide +kernel⟩
theorem q811 : (.code yX5_soonestOf cX5_soonestOf 5 (some .int) : Cond) ∈ GG := List.mem_filter.mpr ⟨List.mem_of_getElem? (i := 811) (by decide +kernel), by decide +kernel⟩
theorem q812 : (.methodLink RL 80 yX5_fire : Cond) ∈ GG := List.mem_filter.mpr ⟨List.mem_of_getElem? (i := 812) (by decide +kernel), by decide +kernel⟩
theorem q813 : (.instanceMethod yX5_fire : Cond) ∈ GG := List.mem_filter.mpr ⟨List.mem_of_getElem? (i := 813) (by decide +kernel), by decide +kernel⟩
theorem q814 : (.selects RX5 yX5_fire yX5_fire : Cond) ∈ GG := List.mem_filter.mpr ⟨List.mem_of_getElem? (i := 814) (by decide +kernel), by decide +kernel⟩
theorem q815 : (.code yX5_fire cX5_fire 4 (some .int) : Cond) ∈ GG := List.mem_filter.mpr ⟨List.mem_of_getElem? (i := 815) (by decide +kernel), by decide +kernel⟩
theorem q816 : (.methodLink RL 85 yX5_odds : Cond) ∈ GG := List.mem_filter.mpr ⟨List.mem_of_getElem? (i := 816) (by decide +kernel), by decide +kernel⟩
theorem q817 : (.instanceMethod yX5_odds : Cond) ∈ GG := List.mem_filter.mpr ⟨List.mem_of_getElem? (i := 817) (by decide +kernel), by decide +kernel⟩
theorem q818 : (.selects RX5 yX5_odds yX5_odds : Cond) ∈ GG := List.mem_filter.mpr ⟨List.mem_of_getElem? (i := 818) (by decide +kernel), by decide +kernel⟩
theorem q819 : (.code yX5_odds cX5_odds 10 (some .int) : Cond) ∈ GG := List.mem_filter.mpr ⟨List.mem_of_getElem? (i := 819) (by decide +kernel), by decide +kernel⟩
theorem q820 : (.methodLink RL 89 yX5_led : Cond) ∈ GG := List.mem_filter.mpr ⟨List.mem_of_getElem? (i := 820) (by decide +kernel), by decide +kernel⟩
theorem q821 : (.instanceMethod yX5_led : Cond) ∈ GG := List.mem_filter.mpr ⟨List.mem_of_getElem? (i := 821) (by decide +kernel), by decide +kernel⟩
theorem q822 : (.selects RX5 yX5_led yX5_led : Cond) ∈ GG := List.mem_filter.mpr ⟨List.mem_of_getElem? (i := 822) (by decide +kernel), by decide +kernel⟩
theorem q823 : (.code yX5_led cX5_led 3 (some .int) : Cond) ∈ GG := List.mem_filter.mpr ⟨List.mem_of_getElem? (i := 823) (by decide +kernel), by decide +kernel⟩
theorem q824 : (.methodLink RL 93 yX5_forget : Cond) ∈ GG := List.mem_filter.mpr ⟨List.mem_of_getElem? (i := 824) (by decide +kernel), by decide +kernel⟩
theorem q825 : (.instanceMethod yX5_forget : Cond) ∈ GG := List.mem_filter.mpr ⟨List.mem_of_getElem? (i := 825) (by decide +kernel), by decide +kernel⟩
theorem q826 : (.selects RX5 yX5_forget yX5_forget : Cond) ∈ GG := List.mem_filter.mpr ⟨List.mem_of_getElem? (i := 826) (by decide +kernel), by decide +kernel⟩
theorem q827 : (.code yX5_forget cX5_forget 2 (some .int) : Cond) ∈ GG := List.mem_filter.mpr ⟨List.mem_of_getElem? (i := 827) (by decide +kernel), by decide +kernel⟩
theorem q828 : (.methodLink RL 97 yX5_vanilla : Cond) ∈ GG := List.mem_filter.mpr ⟨List.mem_of_getElem? (i := 828) (by decide +kernel), by decide +kernel⟩
theorem q829 : (.instanceMethod yX5_vanilla : Cond) ∈ GG := List.mem_filter.mpr ⟨List.mem_of_getElem? (i := 829) (by decide +kernel), by decide +kernel⟩
theorem q830 : (.selects RX5 yX5_vanilla yX5_vanilla : Cond) ∈ GG := List.mem_filter.mpr ⟨List.mem_of_getElem? (i := 830) (by decide +kernel), by decide +kernel⟩
theorem q831 : (.code yX5_vanilla cX5_vanilla 6 (some .int) : Cond) ∈ GG := List.mem_filter.mpr ⟨List.mem_of_getElem? (i := 831) (by decide +kernel), by decide +kernel⟩
theorem q832 : (.methodLink RL 101 yX5_mark : Cond) ∈ GG := List.mem_filter.mpr ⟨List.mem_of_getElem? (i := 832) (by decide +kernel), by decide +kernel⟩
theorem q833 : (.instanceMethod yX5_mark : Cond) ∈ GG := List.mem_filter.mpr ⟨List.mem_of_getElem? (i := 833) (by decide +kernel), by decide +kernel⟩
theorem q834 : (.selects RX5 yX5_mark yX5_mark : Cond) ∈ GG := List.mem_filter.mpr ⟨List.mem_of_getElem? (i := 834) (by decide +kernel), by decide +kernel⟩
theorem q835 : (.code yX5_mark cX5_mark 6 (some .int) : Cond) ∈ GG := List.mem_filter.mpr ⟨List.mem_of_getElem? (i := 835) (by decide +kernel), by decide +kernel⟩
theorem q836 : (.constantLong RX5 151 (11) : Cond) ∈ GG := List.mem_filter.mpr ⟨List.mem_of_getElem? (i := 836) (by decide +kernel), by decide +kernel⟩
theorem q837 : (.constantLong RX5 153 (101) : Cond) ∈ GG := List.mem_filter.mpr ⟨List.mem_of_getElem? (i := 837) (by decide +kernel), by decide +kernel⟩
theorem q838 : (.constantLong RX5 155 (1011) : Cond) ∈ GG := List.mem_filter.mpr ⟨List.mem_of_getElem? (i := 838) (by decide +kernel), by decide +kernel⟩
theorem q839 : (.constantLong RX5 157 (10101) : Cond) ∈ GG := List.mem_filter.mpr ⟨List.mem_of_getElem? (i := 839) (by decide +kernel), by decide +kernel⟩
theorem q840 : (.constantLong RX5 159 (100001) : Cond) ∈ GG := List.mem_filter.mpr ⟨List.mem_of_getElem? (i := 840) (by decide +kernel), by decide +kernel⟩
theorem q841 : (.methodLink RL 105 yX5_keep : Cond) ∈ GG := List.mem_filter.mpr ⟨List.mem_of_getElem? (i := 841) (by decide +kernel), by decide +kernel⟩
theorem q842 : (.instanceMethod yX5_keep : Cond) ∈ GG := List.mem_filter.mpr ⟨List.mem_of_getElem? (i := 842) (by decide +kernel), by decide +kernel⟩
theorem q843 : (.selects RX5 yX5_keep yX5_keep : Cond) ∈ GG := List.mem_filter.mpr ⟨List.mem_of_getElem? (i := 843) (by decide +kernel), by decide +kernel⟩
theorem q844 : (.code yX5_keep cX5_keep 3 (some .int) : Cond) ∈ GG := List.mem_filter.mpr ⟨List.mem_of_getElem? (i := 844) (by decide +kernel), by decide +kernel⟩
theorem q845 : (.methodLink RL 109 yX5_back : Cond) ∈ GG := List.mem_filter.mpr ⟨List.mem_of_getElem? (i := 845) (by decide +kernel), by decide +kernel⟩
theorem q846 : (.instanceMethod yX5_back : Cond) ∈ GG := List.mem_filter.mpr ⟨List.mem_of_getElem? (i := 846) (by decide +kernel), by decide +kernel⟩
theorem q847 : (.selects RX5 yX5_back yX5_back : Cond) ∈ GG := List.mem_filter.mpr ⟨List.mem_of_getElem? (i := 847) (by decide +kernel), by decide +kernel⟩
theorem q848 : (.code yX5_back cX5_back 3 (some .int) : Cond) ∈ GG := List.mem_filter.mpr ⟨List.mem_of_getElem? (i := 848) (by decide +kernel), by decide +kernel⟩
theorem q849 : (.methodLink RL 113 yX5_count : Cond) ∈ GG := List.mem_filter.mpr ⟨List.mem_of_getElem? (i := 849) (by decide +kernel), by decide +kernel⟩
theorem q850 : (.instanceMethod yX5_count : Cond) ∈ GG := List.mem_filter.mpr ⟨List.mem_of_getElem? (i := 850) (by decide +kernel), by decide +kernel⟩
theorem q851 : (.selects RX5 yX5_count yX5_count : Cond) ∈ GG := List.mem_filter.mpr ⟨List.mem_of_getElem? (i := 851) (by decide +kernel), by decide +kernel⟩
theorem q852 : (.code yX5_count cX5_count 2 (some .int) : Cond) ∈ GG := List.mem_filter.mpr ⟨List.mem_of_getElem? (i := 852) (by decide +kernel), by decide +kernel⟩
theorem q853 : (.methodLink RL 118 yX5_trace : Cond) ∈ GG := List.mem_filter.mpr ⟨List.mem_of_getElem? (i := 853) (by decide +kernel), by decide +kernel⟩
theorem q854 : (.instanceMethod yX5_trace : Cond) ∈ GG := List.mem_filter.mpr ⟨List.mem_of_getElem? (i := 854) (by decide +kernel), by decide +kernel⟩
theorem q855 : (.selects RX5 yX5_trace yX5_trace : Cond) ∈ GG := List.mem_filter.mpr ⟨List.mem_of_getElem? (i := 855) (by decide +kernel), by decide +kernel⟩
theorem q856 : (.code yX5_trace cX5_trace 1 (some .long) : Cond) ∈ GG := List.mem_filter.mpr ⟨List.mem_of_getElem? (i := 856) (by decide +kernel), by decide +kernel⟩
end
section
/-! what all methods share: the world, the room by levels, contracts in functional form, one row a call -/
abbrev classes : List vw_C := [(RX0, TX0, 2), (RX1, TX1, 6), (RX2, TX2, 6), (RX3, TX3, 4), (RX4, TX4, 13), (RX5, TX5, 17)]
abbrev Ev : Type := va_G × ClassId × ClassId × Nat × Nat × Nat
abbrev TY (E : Ev) : List (ClassId × FieldType) := [(E.2.1, .int), (E.2.2.1, .boolean)]
abbrev RM (L : Nat) : Room := { frames := L, cells := 0, slots := 0, locals := 64 * L }
abbrev wG (y : MethodName) (b : ByteArray) (n : Nat) (r : Option FieldType) : List Cond := .code y b n r :: GG
def nestW : Cond := .methodLinkNest RX1 49 yX4_dividedUp "OvenNoses"
def tO2 : Nat → Int32 := fun j => match j with | 0 => 40 | _ => 18
def tL5 : Nat → Int32 := fun j => match j with | 2 => 1 | _ => 0
def tM5 : Nat → Int32 := fun j => match j with | 0 => 9 | 1 => 9 | 2 => 99 | 3 => 60 | _ => 99
def KK (E : Ev) (A : Nat → Prop) (U : State) (H : Heap) : Prop :=
  va_K E.1 classes (TY E) U ∧ va_Nw nestW U ∧
  (va_Z RX2 "OVEN_MOSTS" "[I" (.ref E.2.2.2.1) A U H ∧ va_T .int E.2.2.2.1 2 (fun j => .int (tO2 j)) A U H) ∧
  (va_Z RX2 "DOUGH_LEASTS" "[I" (.ref E.2.2.2.2.1) A U H ∧ va_T .int E.2.2.2.2.1 5 (fun j => .int (tL5 j)) A U H) ∧
  (va_Z RX2 "DOUGH_MOSTS" "[I" (.ref E.2.2.2.2.2) A U H ∧ va_T .int E.2.2.2.2.2 5 (fun j => .int (tM5 j)) A U H)
theorem KK.pass {E : Ev} {A0 A1 : Nat → Prop} {s U : State} {H : Heap} {locs : List Loc} (h : KK E A0 s s.heap) (hS : va_S A0 s.heap H locs) (hA : ∀ q, A1 q → A0 q) (hU : U.heap = H) (hW : s.WarmedH U.vm) : KK E A1 U U.heap := by
  obtain ⟨h1, h2, ⟨z1, t1⟩, ⟨z2, t2⟩, ⟨z3, t3⟩⟩ := h
  have k : ∀ a : Nat, a < s.heap.size → ¬ A0 a → H[a]? = s.heap[a]? := fun a ha hn => hS.2.1 a ha hn
  rw [hU]
  exact ⟨va_K.moved hW.alike h1, va_Nw.warmM hW h2, ⟨((z1.kept k).moved hW.alike).narrow hA, ((t1.kept k).moved hW.alike).narrow hA⟩, ⟨((z2.kept k).moved hW.alike).narrow hA, ((t2.kept k).moved hW.alike).narrow hA⟩, ⟨((z3.kept k).moved hW.alike).narrow hA, ((t3.kept k).moved hW.alike).narrow hA⟩⟩
theorem KK.calling {E : Ev} {A : Nat → Prop} {U : State} {g : JFrame} {mk : MethodId} {a : Array Value} (h : KK E A U U.heap) : KK E A (U.calling g mk a) (U.calling g mk a).heap := by
  obtain ⟨h1, h2, ⟨z1, t1⟩, ⟨z2, t2⟩, ⟨z3, t3⟩⟩ := h
  have e : U.vm.Alike (U.calling g mk a).vm := Vm.Alike.refl U.vm
  exact ⟨va_K.moved e h1, va_Nw.same rfl rfl h2, ⟨z1.moved e, t1.moved e⟩, ⟨z2.moved e, t2.moved e⟩, ⟨z3.moved e, t3.moved e⟩⟩
/-- what a method's walk stands on -/
abbrev Cx (p : Program) (s : State) (m : MethodId) (args : Array Value) (meth : Method) (c : Code) (cc : ByteArray) (nL : Nat) (own : String) (rt : Option FieldType) : Prop :=
  p.tables.exec = Jvm.exec ∧ c.code = cc ∧ c.maxLocals = nL ∧ s.vm.findClass own = some m.cls ∧ (∀ w ∈ GG, w.before args s = true) ∧ meth.sig.returnType = rt ∧ meth.locks = false
/-- a method that changes nothing and answers an int -/
def PureI (l : Launch) (E : Ev) (L : Nat) (y : MethodName) (b : ByteArray) (n : Nat) (rt : FieldType) (av : List Value) (ws : va_W) (r : Int32) : Prop :=
  ∀ sz : Nat, Met l y (wG y b n (some rt)) (RM L) (va_Pc av (fun U => U.heap.size = sz ∧ va_P E.1 classes ws U.heap ∧ KK E (fun q => sz ≤ q) U U.heap)) (va_Qi (fun (r' : Int32) (_ : Unit) => r' = r) (fun _ _ => True) (fun q => sz ≤ q)) 0 0 (fun q => sz ≤ q)
def PureL (l : Launch) (E : Ev) (L : Nat) (y : MethodName) (b : ByteArray) (n : Nat) (av : List Value) (ws : va_W) (r : Int64) : Prop :=
  ∀ sz : Nat, Met l y (wG y b n (some .long)) (RM L) (va_Pc av (fun U => U.heap.size = sz ∧ va_P E.1 classes ws U.heap ∧ KK E (fun q => sz ≤ q) U U.heap)) (va_Ql (fun (r' : Int64) (_ : Unit) => r' = r) (fun _ _ => True) (fun q => sz ≤ q)) 0 0 (fun q => sz ≤ q)
def PureR (l : Launch) (E : Ev) (L : Nat) (y : MethodName) (b : ByteArray) (n : Nat) (rt : FieldType) (av : List Value) (ws : va_W) (a : Nat) : Prop :=
  ∀ sz : Nat, Met l y (wG y b n (some rt)) (RM L) (va_Pc av (fun U => U.heap.size = sz ∧ va_P E.1 classes ws U.heap ∧ KK E (fun q => sz ≤ q) U U.heap)) (va_Qr (fun (_ : Unit) => True) (fun _ a' _ => a' = a) (fun q => sz ≤ q)) 0 0 (fun q => sz ≤ q)
/-- a method that changes its world's cells -/
def MutI (l : Launch) (E : Ev) (L : Nat) (y : MethodName) (b : ByteArray) (n : Nat) (rt : FieldType) (av : List Value) (ws ws' : va_W) (r : Int32) : Prop :=
  ∀ sz : Nat, Met l y (wG y b n (some rt)) (RM L) (va_Pc av (fun U => U.heap.size = sz ∧ va_P E.1 classes ws U.heap ∧ KK E (va_A ws sz) U U.heap ∧ va_D (fun _ => True) ws)) (va_Qi (fun (r' : Int32) (_ : Unit) => r' = r) (fun _ t => va_P E.1 classes ws' t.heap) (va_A ws sz)) 0 0 (va_A ws sz)
def MutV (l : Launch) (E : Ev) (L : Nat) (y : MethodName) (b : ByteArray) (n : Nat) (av : List Value) (ws ws' : va_W) : Prop :=
  ∀ sz : Nat, Met l y (wG y b n none) (RM L) (va_Pc av (fun U => U.heap.size = sz ∧ va_P E.1 classes ws U.heap ∧ KK E (va_A ws sz) U U.heap ∧ va_D (fun _ => True) ws)) (va_Qv (fun (_ : Unit) => True) (fun _ t => va_P E.1 classes ws' t.heap) (va_A ws sz)) 0 0 (va_A ws sz)
/-- what a return gives -/
def RetI (p : Program) (l : Launch) (e : Env) (R : Room) (s : State) (m : MethodId) (args : Array Value) (below : List Frame) (meth : Method) (c : Code) (Q : State → Prop) (E : Ev) (A : Nat → Prop) (cc : ByteArray) (rt : FieldType) (ws : va_W) (r : Int32) : Prop :=
  ∀ (H : Heap) (locs : List Loc) (pc : Nat) (ls : Array Slot), narrow rt (.int r) = .int r → va_P E.1 classes ws H → va_S A s.heap H locs → decode cc pc = .ok (.ireturn, 1) → W p l e R s m args below meth c H locs 0 0 Q (F0 m pc ls [.int r])
def RetL (p : Program) (l : Launch) (e : Env) (R : Room) (s : State) (m : MethodId) (args : Array Value) (below : List Frame) (meth : Method) (c : Code) (Q : State → Prop) (E : Ev) (A : Nat → Prop) (cc : ByteArray) (ws : va_W) (r : Int64) : Prop :=
  ∀ (H : Heap) (locs : List Loc) (pc : Nat) (ls : Array Slot), va_P E.1 classes ws H → va_S A s.heap H locs → decode cc pc = .ok (.lreturn, 1) → W p l e R s m args below meth c H locs 0 0 Q (F0 m pc ls [.long r])
def RetR (p : Program) (l : Launch) (e : Env) (R : Room) (s : State) (m : MethodId) (args : Array Value) (below : List Frame) (meth : Method) (c : Code) (Q : State → Prop) (E : Ev) (A : Nat → Prop) (cc : ByteArray) (ws : va_W) (r : Nat) : Prop :=
  ∀ (H : Heap) (locs : List Loc) (pc : Nat) (ls : Array Slot), va_P E.1 classes ws H → va_S A s.heap H locs → decode cc pc = .ok (.areturn, 1) → W p l e R s m args below meth c H locs 0 0 Q (F0 m pc ls [.ref r])
def RetV (p : Program) (l : Launch) (e : Env) (R : Room) (s : State) (m : MethodId) (args : Array Value) (below : List Frame) (meth : Method) (c : Code) (Q : State → Prop) (E : Ev) (A : Nat → Prop) (cc : ByteArray) (ws : va_W) : Prop :=
  ∀ (H : Heap) (locs : List Loc) (pc : Nat) (ls : Array Slot), va_P E.1 classes ws H → va_S A s.heap H locs → decode cc pc = .ok (.return_, 1) → W p l e R s m args below meth c H locs 0 0 Q (F0 m pc ls [])
theorem P_at {D : va_G} {ws : va_W} {H : Heap} {t : State} (ht : t.heap = H) (hP : va_P D classes ws H) : va_P D classes ws t.heap := by rw [ht]; exact hP
section OF
variable {l : Launch} {E : Ev} {L : Nat} {y : MethodName} {b : ByteArray} {n : Nat} {rt : FieldType} {av : List Value} {ws ws' : va_W}
theorem PureI.of {r : Int32} (hy : plainName y.cls = true) (hlen : (lg_sl av).length ≤ n)
    (body : ∀ (p : Program) (e : Env) (s : State) (m : MethodId) (args : Array Value) (below : List Frame) (meth : Method) (c : Code) (Q : State → Prop) (A : Nat → Prop), Cx p s m args meth c b n y.cls (some rt) → KK E A s s.heap → (∀ q, s.heap.size ≤ q → A q) → RetI p l e (RM L) s m args below meth c Q E A b rt ws r →
      ∀ (H : Heap) (locs : List Loc) (ls : Array Slot), lv_has ls n (lv_args 0 av) → va_P E.1 classes ws H → va_S A s.heap H locs → W p l e (RM L) s m args below meth c H locs 0 0 Q (F0 m 0 ls [])) : PureI l E L y b n rt av ws r := by
  intro sz
  refine Met.ofW (cc := b) (maxL := n) (ret := some rt) hy rfl ?_
  intro p e s m args below meth c s₁ B hml hv
  obtain ⟨rfl, hsz, hP, hK⟩ := hv
  subst hsz
  have hl := lv_entry av hlen
  rw [lg_entry_eq]
  exact body p e s m _ below meth c _ (fun q => s.heap.size ≤ q) ⟨B.exec, B.bytes, hml, findClass_of_methodNamed B.named, fun w hw => atoms_spec (ws := wG y b n (some rt)) B.pre w (List.mem_cons_of_mem _ hw), B.returns, B.notSynchronized⟩ hK (fun _ h => h) (fun H locs pc ls hn hP hS hd => W.zret B.exec B.bytes B.returns hn (fun t ht hW => ⟨⟨r, (), rfl, rfl, trivial⟩, hS.F ht⟩) hS.2.2 hd B.notSynchronized) s.heap [] _ hl hP va_S.rf
theorem PureL.of {r : Int64} (hy : plainName y.cls = true) (hlen : (lg_sl av).length ≤ n)
    (body : ∀ (p : Program) (e : Env) (s : State) (m : MethodId) (args : Array Value) (below : List Frame) (meth : Method) (c : Code) (Q : State → Prop) (A : Nat → Prop), Cx p s m args meth c b n y.cls (some .long) → KK E A s s.heap → (∀ q, s.heap.size ≤ q → A q) → RetL p l e (RM L) s m args below meth c Q E A b ws r →
      ∀ (H : Heap) (locs : List Loc) (ls : Array Slot), lv_has ls n (lv_args 0 av) → va_P E.1 classes ws H → va_S A s.heap H locs → W p l e (RM L) s m args below meth c H locs 0 0 Q (F0 m 0 ls [])) : PureL l E L y b n av ws r := by
  intro sz
  refine Met.ofW (cc := b) (maxL := n) (ret := some .long) hy rfl ?_
  intro p e s m args below meth c s₁ B hml hv
  obtain ⟨rfl, hsz, hP, hK⟩ := hv
  subst hsz
  have hl := lv_entry av hlen
  rw [lg_entry_eq]
  exact body p e s m _ below meth c _ (fun q => s.heap.size ≤ q) ⟨B.exec, B.bytes, hml, findClass_of_methodNamed B.named, fun w hw => atoms_spec (ws := wG y b n (some .long)) B.pre w (List.mem_cons_of_mem _ hw), B.returns, B.notSynchronized⟩ hK (fun _ h => h) (fun H locs pc ls hP hS hd => W.lret B.exec B.bytes B.returns (fun t ht hW => ⟨⟨r, (), rfl, rfl, trivial⟩, hS.F ht⟩) hS.2.2 hd B.notSynchronized) s.heap [] _ hl hP va_S.rf
theorem PureR.of {r : Nat} {C : String} (hy : plainName y.cls = true) (hlen : (lg_sl av).length ≤ n)
    (body : ∀ (p : Program) (e : Env) (s : State) (m : MethodId) (args : Array Value) (below : List Frame) (meth : Method) (c : Code) (Q : State → Prop) (A : Nat → Prop), Cx p s m args meth c b n y.cls (some (.object C)) → KK E A s s.heap → (∀ q, s.heap.size ≤ q → A q) → RetR p l e (RM L) s m args below meth c Q E A b ws r →
      ∀ (H : Heap) (locs : List Loc) (ls : Array Slot), lv_has ls n (lv_args 0 av) → va_P E.1 classes ws H → va_S A s.heap H locs → W p l e (RM L) s m args below meth c H locs 0 0 Q (F0 m 0 ls [])) : PureR l E L y b n (.object C) av ws r := by
  intro sz
  refine Met.ofW (cc := b) (maxL := n) (ret := some (.object C)) hy rfl ?_
  intro p e s m args below meth c s₁ B hml hv
  obtain ⟨rfl, hsz, hP, hK⟩ := hv
  subst hsz
  have hl := lv_entry av hlen
  rw [lg_entry_eq]
  exact body p e s m _ below meth c _ (fun q => s.heap.size ≤ q) ⟨B.exec, B.bytes, hml, findClass_of_methodNamed B.named, fun w hw => atoms_spec (ws := wG y b n (some (.object C))) B.pre w (List.mem_cons_of_mem _ hw), B.returns, B.notSynchronized⟩ hK (fun _ h => h) (fun H locs pc ls hP hS hd => W.aret B.exec B.bytes B.returns (Or.inl ⟨C, rfl⟩) (Or.inr ⟨r, rfl⟩) (fun t ht hW => ⟨⟨(), r, rfl, trivial, rfl⟩, hS.F ht⟩) hS.2.2 hd B.notSynchronized) s.heap [] _ hl hP va_S.rf
theorem MutI.of {r : Int32} (hy : plainName y.cls = true) (hlen : (lg_sl av).length ≤ n)
    (body : ∀ (p : Program) (e : Env) (s : State) (m : MethodId) (args : Array Value) (below : List Frame) (meth : Method) (c : Code) (Q : State → Prop) (A : Nat → Prop), Cx p s m args meth c b n y.cls (some rt) → KK E A s s.heap → (∀ q, s.heap.size ≤ q → A q) → RetI p l e (RM L) s m args below meth c Q E A b rt ws' r →
      ∀ (H : Heap) (locs : List Loc) (ls : Array Slot), lv_has ls n (lv_args 0 av) → va_P E.1 classes ws H → va_D A ws → va_S A s.heap H locs → W p l e (RM L) s m args below meth c H locs 0 0 Q (F0 m 0 ls [])) : MutI l E L y b n rt av ws ws' r := by
  intro sz
  refine Met.ofW (cc := b) (maxL := n) (ret := some rt) hy rfl ?_
  intro p e s m args below meth c s₁ B hml hv
  obtain ⟨rfl, hsz, hP, hK, hD⟩ := hv
  subst hsz
  have hl := lv_entry av hlen
  rw [lg_entry_eq]
  exact body p e s m _ below meth c _ (va_A ws s.heap.size) ⟨B.exec, B.bytes, hml, findClass_of_methodNamed B.named, fun w hw => atoms_spec (ws := wG y b n (some rt)) B.pre w (List.mem_cons_of_mem _ hw), B.returns, B.notSynchronized⟩ hK (fun _ h => Or.inr h) (fun H locs pc ls hn hP hS hd => W.zret B.exec B.bytes B.returns hn (fun t ht hW => ⟨⟨r, (), rfl, rfl, P_at ht hP⟩, hS.F ht⟩) hS.2.2 hd B.notSynchronized) s.heap [] _ hl hP hD.self va_S.rf
theorem MutV.of (hy : plainName y.cls = true) (hlen : (lg_sl av).length ≤ n)
    (body : ∀ (p : Program) (e : Env) (s : State) (m : MethodId) (args : Array Value) (below : List Frame) (meth : Method) (c : Code) (Q : State → Prop) (A : Nat → Prop), Cx p s m args meth c b n y.cls none → KK E A s s.heap → (∀ q, s.heap.size ≤ q → A q) → RetV p l e (RM L) s m args below meth c Q E A b ws' →
      ∀ (H : Heap) (locs : List Loc) (ls : Array Slot), lv_has ls n (lv_args 0 av) → va_P E.1 classes ws H → va_D A ws → va_S A s.heap H locs → W p l e (RM L) s m args below meth c H locs 0 0 Q (F0 m 0 ls [])) : MutV l E L y b n av ws ws' := by
  intro sz
  refine Met.ofW (cc := b) (maxL := n) (ret := none) hy rfl ?_
  intro p e s m args below meth c s₁ B hml hv
  obtain ⟨rfl, hsz, hP, hK, hD⟩ := hv
  subst hsz
  have hl := lv_entry av hlen
  rw [lg_entry_eq]
  exact body p e s m _ below meth c _ (va_A ws s.heap.size) ⟨B.exec, B.bytes, hml, findClass_of_methodNamed B.named, fun w hw => atoms_spec (ws := wG y b n none) B.pre w (List.mem_cons_of_mem _ hw), B.returns, B.notSynchronized⟩ hK (fun _ h => Or.inr h) (fun H locs pc ls hP hS hd => W.vret B.exec B.bytes B.returns (fun t ht hW => ⟨⟨(), rfl, trivial, P_at ht hP⟩, hS.F ht⟩) hS.2.2 hd B.notSynchronized) s.heap [] _ hl hP hD.self va_S.rf
end OF
/-! ## links -/
def lkV (own : String) (idx : Nat) (y : MethodName) (b : ByteArray) (n : Nat) (rt : Option FieldType) (k : Nat) : Prop :=
  Cond.methodLink own idx y ∈ GG ∧ Cond.instanceMethod y ∈ GG ∧ Cond.selects y.cls y y ∈ GG ∧ Cond.initialized y.cls ∈ GG ∧ Cond.code y b n rt ∈ GG ∧ y.cls ≠ "java/lang/invoke/MethodHandle" ∧ y.cls ≠ "java/lang/invoke/VarHandle" ∧ (parseMethodDescriptor y.desc).map (fun d => d.parameters.length) = some k
def lkS (own : String) (idx : Nat) (y : MethodName) (b : ByteArray) (n : Nat) (rt : Option FieldType) (k : Nat) : Prop :=
  Cond.methodLink own idx y ∈ GG ∧ Cond.static y ∈ GG ∧ Cond.initialized y.cls ∈ GG ∧ Cond.code y b n rt ∈ GG ∧ y.cls ≠ "java/lang/invoke/MethodHandle" ∧ y.cls ≠ "java/lang/invoke/VarHandle" ∧ (parseMethodDescriptor y.desc).map (fun d => d.parameters.length) = some k
theorem GG_of {ws : List Cond} (h : ∀ w ∈ ws, w ∈ GG) : GoodIn GG ws := fun w hw => ⟨h w hw, good_of_word (GG_good (h w hw))⟩
theorem lkV.good {own : String} {idx : Nat} {y : MethodName} {b : ByteArray} {n : Nat} {rt : Option FieldType} {k : Nat} (h : lkV own idx y b n rt k) : GoodIn GG (wsV own idx y.cls y (wG y b n rt)) := GG_of (by
  intro w hw
  simp only [wsV, wG, List.mem_append, List.mem_cons, List.not_mem_nil, or_false] at hw
  rcases hw with (rfl | rfl | rfl | rfl) | rfl | hw
  · exact h.1
  · exact h.2.1
  · exact h.2.2.1
  · exact h.2.2.2.1
  · exact h.2.2.2.2.1
  · exact hw)
theorem lkS.good {own : String} {idx : Nat} {y : MethodName} {b : ByteArray} {n : Nat} {rt : Option FieldType} {k : Nat} (h : lkS own idx y b n rt k) : GoodIn GG (va_wsS own idx y (wG y b n rt)) := GG_of (by
  intro w hw
  simp only [va_wsS, wG, List.mem_append, List.mem_cons, List.not_mem_nil, or_false] at hw
  rcases hw with (rfl | rfl | rfl) | rfl | hw
  · exact h.1
  · exact h.2.1
  · exact h.2.2.1
  · exact h.2.2.2.1
  · exact hw)
/-! ## the cells that a call gave back stand in their places -/
def setAll : va_W → List Nat → va_W → va_W
  | ws, i :: is, x :: xs => setAll (ws.set i x) is xs
  | ws, _, _ => ws
theorem setAll_length : ∀ (is : List Nat) (ws xs : va_W), (setAll ws is xs).length = ws.length
  | [], ws, xs => by simp [setAll]
  | i :: is, ws, [] => by simp [setAll]
  | i :: is, ws, x :: xs => by simp [setAll, setAll_length is]
theorem setAll_out : ∀ (is : List Nat) (ws xs : va_W) (k : Nat), k ∉ is → (setAll ws is xs)[k]? = ws[k]?
  | [], ws, xs, k, _ => by simp [setAll]
  | i :: is, ws, [], k, _ => by simp [setAll]
  | i :: is, ws, x :: xs, k, h => by
    simp only [List.mem_cons, not_or] at h
    rw [setAll, setAll_out is _ xs k h.2, List.getElem?_set_ne (fun e => h.1 e.symm)]
theorem setAll_in : ∀ (is : List Nat) (ws xs : va_W) (j k : Nat) (q : Nat × va_E), va_nd is = true → is[j]? = some k → xs[j]? = some q → k < ws.length → (setAll ws is xs)[k]? = some q
  | [], ws, xs, j, k, q, _, h, _, _ => by simp at h
  | i :: is, ws, [], j, k, q, _, _, h, _ => by simp at h
  | i :: is, ws, x :: xs, 0, k, q, hn, h1, h2, hk => by
    simp only [va_nd, Bool.and_eq_true, decide_eq_true_eq] at hn
    simp at h1 h2
    subst h1; subst h2
    rw [setAll, setAll_out is _ xs i hn.1, List.getElem?_set_self hk]
  | i :: is, ws, x :: xs, j + 1, k, q, hn, h1, h2, hk => by
    simp only [va_nd, Bool.and_eq_true, decide_eq_true_eq] at hn
    rw [List.getElem?_cons_succ] at h1 h2
    rw [setAll]
    exact setAll_in is _ xs j k q hn.2 h1 h2 (by simpa using hk)
theorem at_map {is : List Nat} {ws w : va_W} (hs : is.map (fun i => ws[i]?) = w.map some) {k : Nat} {q : Nat × va_E} (hk : w[k]? = some q) : ∃ i : Nat, is[k]? = some i ∧ ws[i]? = some q := by
  have h1 : (is.map (fun i => ws[i]?))[k]? = some (some q) := by rw [hs, List.getElem?_map, hk]; rfl
  rw [List.getElem?_map] at h1
  cases hi : is[k]? with
  | none => rw [hi] at h1; cases h1
  | some i => rw [hi] at h1; exact ⟨i, rfl, Option.some.inj h1⟩
theorem at_map' {is : List Nat} {ws w : va_W} (hs : is.map (fun i => ws[i]?) = w.map some) {k i : Nat} (hk : is[k]? = some i) : ∃ q : Nat × va_E, w[k]? = some q ∧ ws[i]? = some q := by
  have h1 : (is.map (fun i => ws[i]?))[k]? = some (ws[i]?) := by rw [List.getElem?_map, hk]; rfl
  rw [hs, List.getElem?_map] at h1
  cases hi : w[k]? with
  | none => rw [hi] at h1; cases h1
  | some q => rw [hi] at h1; exact ⟨q, rfl, (Option.some.inj h1).symm⟩
/-- where each cell of the changed world comes from -/
theorem setAll_from {is : List Nat} {ws wc wc' : va_W} (hC : is.map (fun i => ws[i]?) = wc.map some) (hn : va_nd is = true) (ha : wc'.map Prod.fst = wc.map Prod.fst) {k : Nat} {q : Nat × va_E} (h : (setAll ws is wc')[k]? = some q) : (k ∉ is ∧ ws[k]? = some q) ∨ (∃ j : Nat, is[j]? = some k ∧ wc'[j]? = some q ∧ ∃ q0 : Nat × va_E, wc[j]? = some q0 ∧ ws[k]? = some q0 ∧ q0.1 = q.1) := by
  by_cases hk : k ∈ is
  · obtain ⟨j, hj⟩ := List.getElem?_of_mem hk
    obtain ⟨q0, h1, h2⟩ := at_map' hC hj
    have hl : k < ws.length := (List.getElem?_eq_some_iff.mp h2).1
    have e : (wc'.map Prod.fst)[j]? = (wc.map Prod.fst)[j]? := by rw [ha]
    rw [List.getElem?_map, List.getElem?_map, h1] at e
    cases hq : wc'[j]? with
    | none => rw [hq] at e; cases e
    | some q1 =>
      rw [hq] at e
      have e1 : q1.1 = q0.1 := Option.some.inj e
      rw [setAll_in is ws wc' j k q1 hn hj hq hl] at h
      cases h
      exact Or.inr ⟨j, hj, hq, q0, h1, h2, e1.symm⟩
  · rw [setAll_out is ws wc' k hk] at h
    exact Or.inl ⟨hk, h⟩
theorem setAll_D {A : Nat → Prop} {is : List Nat} {ws wc wc' : va_W} (hD : va_D A ws) (hC : is.map (fun i => ws[i]?) = wc.map some) (hn : va_nd is = true) (ha : wc'.map Prod.fst = wc.map Prod.fst) : va_D A (setAll ws is wc') := by
  have key : ∀ (k : Nat) (q : Nat × va_E), (setAll ws is wc')[k]? = some q → ∃ q0, ws[k]? = some q0 ∧ q0.1 = q.1 := by
    intro k q h
    rcases setAll_from hC hn ha h with ⟨-, h⟩ | ⟨j, -, -, q0, -, h, e⟩
    · exact ⟨q, h, rfl⟩
    · exact ⟨q0, h, e⟩
  refine ⟨fun i j x y hi hj hxy => ?_, fun k q hk => ?_⟩
  · obtain ⟨x0, h1, h2⟩ := key i x hi
    obtain ⟨y0, h3, h4⟩ := key j y hj
    exact hD.1 i j x0 y0 h1 h3 (h2.trans (hxy.trans h4.symm))
  · obtain ⟨q0, h1, h2⟩ := key k q hk
    rw [← h2]
    exact hD.2 k q0 h1
theorem setAll_P {A : Nat → Prop} {D : va_G} {is : List Nat} {ws wc wc' : va_W} {H H1 : Heap} (hP : va_P D classes ws H) (hD : va_D A ws) (hC : is.map (fun i => ws[i]?) = wc.map some) (hn : va_nd is = true) (ha : wc'.map Prod.fst = wc.map Prod.fst) (hP1 : va_P D classes wc' H1) (hk : ∀ q : Nat, q < H.size → ¬ va_A wc H.size q → H1[q]? = H[q]?) : va_P D classes (setAll ws is wc') H1 := by
  intro k q h
  rcases setAll_from hC hn ha h with ⟨hni, h⟩ | ⟨j, -, hq, -⟩
  · have hl := (hP k q h).lt
    refine (hP k q h).kept (hk q.1 hl ?_)
    rintro (⟨k2, e, h2⟩ | h2)
    · obtain ⟨i, h3, h4⟩ := at_map hC h2
      have := hD.1 k i q (q.1, e) h h4 rfl
      subst this
      exact hni (List.mem_of_getElem? h3)
    · omega
  · exact hP1 j q hq

/-! ## calls, a row each -/
section CALLS
variable {p : Program} {l : Launch} {e : Env} {R : Room} {s : State} {m : MethodId} {args : Array Value} {below : List Frame} {meth : Method} {c : Code} {H : Heap} {locs : List Loc} {cells slots : Nat} {Q : State → Prop}
variable {cc : ByteArray} {nL pc : Nat} {ls : Array Slot} {rest st0 : List Value} {A : Nat → Prop} {E : Ev} {own : String} {rt0 : Option FieldType} {ws wc wc' : va_W} {L n k idx a ci : Nat} {y : MethodName} {b : ByteArray} {rt : FieldType} {As : List Value} {fs : List Value} {C : vw_C}
theorem kept_all (hP : va_P E.1 classes ws H) {H1 : Heap} (hk : ∀ q : Nat, q < H.size → ¬ (fun q : Nat => H.size ≤ q) q → H1[q]? = H[q]?) : va_P E.1 classes ws H1 :=
  hP.kept (fun k q hq => hk q.1 (hP k q hq).lt (fun h => absurd (hP k q hq).lt (Nat.not_lt.mpr h)))
theorem pV {r : Int32} (X : Cx p s m args meth c cc nL own rt0) (hK : KK E A s s.heap) (hA : ∀ q, s.heap.size ≤ q → A q) (hP : va_P E.1 classes ws H) (hS : va_S A s.heap H locs) (hl : ls.size = nL)
    (hM : PureI l E L y b n rt (.ref a :: As) wc r) (lk : lkV own idx y b n (some rt) k) (is : List Nat) (hsub : is.filterMap (fun i => ws[i]?) = wc) (hr : wc[0]? = some (a, .inr (ci, fs))) (hcl : classes[ci]? = some C) (hC : C.1 = y.cls)
    (hR : (L + 1 ≤ R.frames ∧ 8 + (n + 11) + 64 * L ≤ R.locals) ∧ cells ≤ R.cells ∧ slots ≤ R.slots) (hlen : As.length = k) (hst : st0 = As.reverse ++ .ref a :: rest) (hrm : (rest.map fun v => v.category).sum ≤ 8) (hdg : decode cc pc = .ok (.invokevirtual idx, 3))
    (kk : ∀ (H1 : Heap) (locs1 : List Loc), va_P E.1 classes ws H1 → va_S A s.heap H1 locs1 → W p l e R s m args below meth c H1 locs1 cells slots Q (F0 m (pc + 3) ls (.int r :: rest))) : W p l e R s m args below meth c H locs cells slots Q (F0 m pc ls st0) := by
  obtain ⟨hx, hb, hml, ho, hts, -, -⟩ := X
  have hPc : va_P E.1 classes wc H := hP.sub is hsub
  have hA1 : ∀ q : Nat, H.size ≤ q → A q := fun q h => hA q (Nat.le_trans hS.1 h)
  refine va_calli (va_runV (As := As) (rest := rest) ⟨hx, hb, hml, ho, hts⟩ (hM H.size) (cwV k hts lk.good rfl rfl rfl ⟨rfl, lk.2.2.2.2.2⟩ hR.1) ⟨fun a U g mk q => ⟨q.1, q.2.1, q.2.2.1, q.2.2.2.calling⟩, ?_, fun U hU hW => ⟨rfl, by rw [hU], by rw [hU]; exact hPc, hK.pass hS hA1 hU hW⟩⟩ rfl hlen hl hst (lv_room hrm) hdg hR.2) hS (fun q _ h => hA1 q h) hA1 (fun r' u t H1 locs1 ht hvm hw hB hz hk hS1 => ?_)
  · rw [← hC]; exact va_recv hK.1 hPc hcl hr
  · cases hw
    exact kk H1 locs1 (kept_all hP hk) hS1
theorem pVL {r : Int64} (X : Cx p s m args meth c cc nL own rt0) (hK : KK E A s s.heap) (hA : ∀ q, s.heap.size ≤ q → A q) (hP : va_P E.1 classes ws H) (hS : va_S A s.heap H locs) (hl : ls.size = nL)
    (hM : PureL l E L y b n (.ref a :: As) wc r) (lk : lkV own idx y b n (some .long) k) (is : List Nat) (hsub : is.filterMap (fun i => ws[i]?) = wc) (hr : wc[0]? = some (a, .inr (ci, fs))) (hcl : classes[ci]? = some C) (hC : C.1 = y.cls)
    (hR : (L + 1 ≤ R.frames ∧ 8 + (n + 11) + 64 * L ≤ R.locals) ∧ cells ≤ R.cells ∧ slots ≤ R.slots) (hlen : As.length = k) (hst : st0 = As.reverse ++ .ref a :: rest) (hrm : (rest.map fun v => v.category).sum ≤ 8) (hdg : decode cc pc = .ok (.invokevirtual idx, 3))
    (kk : ∀ (H1 : Heap) (locs1 : List Loc), va_P E.1 classes ws H1 → va_S A s.heap H1 locs1 → W p l e R s m args below meth c H1 locs1 cells slots Q (F0 m (pc + 3) ls (.long r :: rest))) : W p l e R s m args below meth c H locs cells slots Q (F0 m pc ls st0) := by
  obtain ⟨hx, hb, hml, ho, hts, -, -⟩ := X
  have hPc : va_P E.1 classes wc H := hP.sub is hsub
  have hA1 : ∀ q : Nat, H.size ≤ q → A q := fun q h => hA q (Nat.le_trans hS.1 h)
  refine va_calll (va_runV (As := As) (rest := rest) ⟨hx, hb, hml, ho, hts⟩ (hM H.size) (cwV k hts lk.good rfl rfl rfl ⟨rfl, lk.2.2.2.2.2⟩ hR.1) ⟨fun a U g mk q => ⟨q.1, q.2.1, q.2.2.1, q.2.2.2.calling⟩, ?_, fun U hU hW => ⟨rfl, by rw [hU], by rw [hU]; exact hPc, hK.pass hS hA1 hU hW⟩⟩ rfl hlen hl hst (lv_room hrm) hdg hR.2) hS (fun q _ h => hA1 q h) hA1 (fun r' u t H1 locs1 ht hvm hw hB hz hk hS1 => ?_)
  · rw [← hC]; exact va_recv hK.1 hPc hcl hr
  · cases hw
    exact kk H1 locs1 (kept_all hP hk) hS1
theorem pVR {r : Nat} (X : Cx p s m args meth c cc nL own rt0) (hK : KK E A s s.heap) (hA : ∀ q, s.heap.size ≤ q → A q) (hP : va_P E.1 classes ws H) (hS : va_S A s.heap H locs) (hl : ls.size = nL)
    (hM : PureR l E L y b n rt (.ref a :: As) wc r) (lk : lkV own idx y b n (some rt) k) (is : List Nat) (hsub : is.filterMap (fun i => ws[i]?) = wc) (hr : wc[0]? = some (a, .inr (ci, fs))) (hcl : classes[ci]? = some C) (hC : C.1 = y.cls)
    (hR : (L + 1 ≤ R.frames ∧ 8 + (n + 11) + 64 * L ≤ R.locals) ∧ cells ≤ R.cells ∧ slots ≤ R.slots) (hlen : As.length = k) (hst : st0 = As.reverse ++ .ref a :: rest) (hrm : (rest.map fun v => v.category).sum ≤ 8) (hdg : decode cc pc = .ok (.invokevirtual idx, 3))
    (kk : ∀ (H1 : Heap) (locs1 : List Loc), va_P E.1 classes ws H1 → va_S A s.heap H1 locs1 → W p l e R s m args below meth c H1 locs1 cells slots Q (F0 m (pc + 3) ls (.ref r :: rest))) : W p l e R s m args below meth c H locs cells slots Q (F0 m pc ls st0) := by
  obtain ⟨hx, hb, hml, ho, hts, -, -⟩ := X
  have hPc : va_P E.1 classes wc H := hP.sub is hsub
  have hA1 : ∀ q : Nat, H.size ≤ q → A q := fun q h => hA q (Nat.le_trans hS.1 h)
  refine va_callr (va_runV (As := As) (rest := rest) ⟨hx, hb, hml, ho, hts⟩ (hM H.size) (cwV k hts lk.good rfl rfl rfl ⟨rfl, lk.2.2.2.2.2⟩ hR.1) ⟨fun a U g mk q => ⟨q.1, q.2.1, q.2.2.1, q.2.2.2.calling⟩, ?_, fun U hU hW => ⟨rfl, by rw [hU], by rw [hU]; exact hPc, hK.pass hS hA1 hU hW⟩⟩ rfl hlen hl hst (lv_room hrm) hdg hR.2) hS (fun q _ h => hA1 q h) hA1 (fun u ra t H1 locs1 ht hvm hw hB hz hk hS1 => ?_)
  · rw [← hC]; exact va_recv hK.1 hPc hcl hr
  · cases hB
    exact kk H1 locs1 (kept_all hP hk) hS1
theorem pS {r : Int32} (X : Cx p s m args meth c cc nL own rt0) (hK : KK E A s s.heap) (hA : ∀ q, s.heap.size ≤ q → A q) (hP : va_P E.1 classes ws H) (hS : va_S A s.heap H locs) (hl : ls.size = nL)
    (hM : PureI l E L y b n rt As [] r) (lk : lkS own idx y b n (some rt) k)
    (hR : (L + 1 ≤ R.frames ∧ 8 + (n + 11) + 64 * L ≤ R.locals) ∧ cells ≤ R.cells ∧ slots ≤ R.slots) (hlen : As.length = k) (hst : st0 = As.reverse ++ rest) (hrm : (rest.map fun v => v.category).sum ≤ 8) (hdg : decode cc pc = .ok (.invokestatic idx, 3))
    (kk : ∀ (H1 : Heap) (locs1 : List Loc), va_P E.1 classes ws H1 → va_S A s.heap H1 locs1 → W p l e R s m args below meth c H1 locs1 cells slots Q (F0 m (pc + 3) ls (.int r :: rest))) : W p l e R s m args below meth c H locs cells slots Q (F0 m pc ls st0) := by
  obtain ⟨hx, hb, hml, ho, hts, -, -⟩ := X
  have hA1 : ∀ q : Nat, H.size ≤ q → A q := fun q h => hA q (Nat.le_trans hS.1 h)
  refine va_calli (va_runS (As := As) (rest := rest) ⟨hx, hb, hml, ho, hts⟩ (hM H.size) (va_cwS k hts lk.good rfl rfl rfl lk.2.2.2.2 hR.1) ⟨fun a U g mk q => ⟨q.1, q.2.1, q.2.2.1, q.2.2.2.calling⟩, fun U hU hW => ⟨rfl, by rw [hU], fun k q h => by simp at h, hK.pass hS hA1 hU hW⟩⟩ rfl hlen hl hst (lv_room hrm) hdg hR.2) hS (fun q _ h => hA1 q h) hA1 (fun r' u t H1 locs1 ht hvm hw hB hz hk hS1 => ?_)
  cases hw
  exact kk H1 locs1 (kept_all hP hk) hS1
theorem pSN {r : Int32} (X : Cx p s m args meth c cc nL own rt0) (hK : KK E A s s.heap) (hA : ∀ q, s.heap.size ≤ q → A q) (hP : va_P E.1 classes ws H) (hS : va_S A s.heap H locs) (hl : ls.size = nL) {host : String}
    (hM : PureI l E L y b n rt As [] r) (hN : va_Nw (.methodLinkNest own idx y host) s) (lk : Cond.static y ∈ GG ∧ Cond.initialized y.cls ∈ GG ∧ Cond.code y b n (some rt) ∈ GG ∧ y.cls ≠ "java/lang/invoke/MethodHandle" ∧ y.cls ≠ "java/lang/invoke/VarHandle" ∧ (parseMethodDescriptor y.desc).map (fun d => d.parameters.length) = some k)
    (hR : (L + 1 ≤ R.frames ∧ 8 + (n + 11) + 64 * L ≤ R.locals) ∧ cells ≤ R.cells ∧ slots ≤ R.slots) (hlen : As.length = k) (hst : st0 = As.reverse ++ rest) (hrm : (rest.map fun v => v.category).sum ≤ 8) (hdg : decode cc pc = .ok (.invokestatic idx, 3))
    (kk : ∀ (H1 : Heap) (locs1 : List Loc), va_P E.1 classes ws H1 → va_S A s.heap H1 locs1 → W p l e R s m args below meth c H1 locs1 cells slots Q (F0 m (pc + 3) ls (.int r :: rest))) : W p l e R s m args below meth c H locs cells slots Q (F0 m pc ls st0) := by
  obtain ⟨hx, hb, hml, ho, hts, -, -⟩ := X
  have hA1 : ∀ q : Nat, H.size ≤ q → A q := fun q h => hA q (Nat.le_trans hS.1 h)
  have hG : GoodIn GG (wG y b n (some rt)) := GG_of (fun w hw => by
    rcases List.mem_cons.mp hw with rfl | hw
    · exact lk.2.2.1
    · exact hw)
  refine va_calli (va_runSN (As := As) (rest := rest) ⟨hx, hb, hml, ho, hts⟩ (hM H.size) ⟨va_cnB k hts hG rfl rfl rfl hN (hts _ lk.2.1) lk.2.2.2 hR.1, hts _ lk.1, trivial⟩ ⟨fun a U g mk q => ⟨q.1, q.2.1, q.2.2.1, q.2.2.2.calling⟩, fun U hU hW => ⟨rfl, by rw [hU], fun k q h => by simp at h, hK.pass hS hA1 hU hW⟩⟩ rfl hlen hl hst (lv_room hrm) hdg hR.2) hS (fun q _ h => hA1 q h) hA1 (fun r' u t H1 locs1 ht hvm hw hB hz hk hS1 => ?_)
  cases hw
  exact kk H1 locs1 (kept_all hP hk) hS1
theorem mV {r : Int32} (X : Cx p s m args meth c cc nL own rt0) (hK : KK E A s s.heap) (hA : ∀ q, s.heap.size ≤ q → A q) (hP : va_P E.1 classes ws H) (hD : va_D A ws) (hS : va_S A s.heap H locs) (hl : ls.size = nL)
    (hM : MutI l E L y b n rt (.ref a :: As) wc wc' r) (lk : lkV own idx y b n (some rt) k) (is : List Nat) (hnd : va_nd is = true) (hsub : is.map (fun i => ws[i]?) = wc.map some) (had : wc'.map Prod.fst = wc.map Prod.fst) (hr : wc[0]? = some (a, .inr (ci, fs))) (hcl : classes[ci]? = some C) (hC : C.1 = y.cls)
    (hR : (L + 1 ≤ R.frames ∧ 8 + (n + 11) + 64 * L ≤ R.locals) ∧ cells ≤ R.cells ∧ slots ≤ R.slots) (hlen : As.length = k) (hst : st0 = As.reverse ++ .ref a :: rest) (hrm : (rest.map fun v => v.category).sum ≤ 8) (hdg : decode cc pc = .ok (.invokevirtual idx, 3))
    (kk : ∀ (H1 : Heap) (locs1 : List Loc), va_P E.1 classes (setAll ws is wc') H1 → va_D A (setAll ws is wc') → va_S A s.heap H1 locs1 → W p l e R s m args below meth c H1 locs1 cells slots Q (F0 m (pc + 3) ls (.int r :: rest))) : W p l e R s m args below meth c H locs cells slots Q (F0 m pc ls st0) := by
  obtain ⟨hx, hb, hml, ho, hts, -, -⟩ := X
  have hPc : va_P E.1 classes wc H := fun k q hk => by obtain ⟨i, -, hi⟩ := at_map hsub hk; exact hP i q hi
  have hDc : va_D A wc := hD.sub is hnd hsub
  have hF := va_free (wc := wc) hD hS hA is hsub
  refine va_calli (va_runV (As := As) (rest := rest) ⟨hx, hb, hml, ho, hts⟩ (hM H.size) (cwV k hts lk.good rfl rfl rfl ⟨rfl, lk.2.2.2.2.2⟩ hR.1) ⟨fun a U g mk q => ⟨q.1, q.2.1, q.2.2.1, q.2.2.2.1.calling, q.2.2.2.2⟩, ?_, fun U hU hW => ⟨rfl, by rw [hU], by rw [hU]; exact hPc, hK.pass hS hF hU hW, hDc.weaken (fun _ _ _ _ => trivial)⟩⟩ rfl hlen hl hst (lv_room hrm) hdg hR.2) hS (fun q _ h => hF q h) hF (fun r' u t H1 locs1 ht hvm hw hB hz hk hS1 => ?_)
  · rw [← hC]; exact va_recv hK.1 hPc hcl hr
  · cases hw
    subst ht
    exact kk t.heap locs1 (setAll_P hP hD hsub hnd had hB hk) (setAll_D hD hsub hnd had) hS1
theorem mVv (X : Cx p s m args meth c cc nL own rt0) (hK : KK E A s s.heap) (hA : ∀ q, s.heap.size ≤ q → A q) (hP : va_P E.1 classes ws H) (hD : va_D A ws) (hS : va_S A s.heap H locs) (hl : ls.size = nL)
    (hM : MutV l E L y b n (.ref a :: As) wc wc') (lk : lkV own idx y b n none k) (is : List Nat) (hnd : va_nd is = true) (hsub : is.map (fun i => ws[i]?) = wc.map some) (had : wc'.map Prod.fst = wc.map Prod.fst) (hr : wc[0]? = some (a, .inr (ci, fs))) (hcl : classes[ci]? = some C) (hC : C.1 = y.cls)
    (hR : (L + 1 ≤ R.frames ∧ 8 + (n + 11) + 64 * L ≤ R.locals) ∧ cells ≤ R.cells ∧ slots ≤ R.slots) (hlen : As.length = k) (hst : st0 = As.reverse ++ .ref a :: rest) (hrm : (rest.map fun v => v.category).sum ≤ 8) (hdg : decode cc pc = .ok (.invokevirtual idx, 3))
    (kk : ∀ (H1 : Heap) (locs1 : List Loc), va_P E.1 classes (setAll ws is wc') H1 → va_D A (setAll ws is wc') → va_S A s.heap H1 locs1 → W p l e R s m args below meth c H1 locs1 cells slots Q (F0 m (pc + 3) ls rest)) : W p l e R s m args below meth c H locs cells slots Q (F0 m pc ls st0) := by
  obtain ⟨hx, hb, hml, ho, hts, -, -⟩ := X
  have hPc : va_P E.1 classes wc H := fun k q hk => by obtain ⟨i, -, hi⟩ := at_map hsub hk; exact hP i q hi
  have hDc : va_D A wc := hD.sub is hnd hsub
  have hF := va_free (wc := wc) hD hS hA is hsub
  refine va_callv (va_runV (As := As) (rest := rest) ⟨hx, hb, hml, ho, hts⟩ (hM H.size) (cwV k hts lk.good rfl rfl rfl ⟨rfl, lk.2.2.2.2.2⟩ hR.1) ⟨fun a U g mk q => ⟨q.1, q.2.1, q.2.2.1, q.2.2.2.1.calling, q.2.2.2.2⟩, ?_, fun U hU hW => ⟨rfl, by rw [hU], by rw [hU]; exact hPc, hK.pass hS hF hU hW, hDc.weaken (fun _ _ _ _ => trivial)⟩⟩ rfl hlen hl hst (lv_room hrm) hdg hR.2) hS (fun q _ h => hF q h) hF (fun u t H1 locs1 ht hvm hw hB hz hk hS1 => ?_)
  · rw [← hC]; exact va_recv hK.1 hPc hcl hr
  · subst ht
    exact kk t.heap locs1 (setAll_P hP hD hsub hnd had hB hk) (setAll_D hD hsub hnd had) hS1
end CALLS
/-! ## what an answer of a function in Option says -/
theorem og {α : Type} {c : Prop} {d : Decidable c} {a : Option α} {r : α} (h : (@ite _ c d a none) = some r) : c ∧ a = some r := by
  by_cases hc : c
  · rw [if_pos hc] at h; exact ⟨hc, h⟩
  · rw [if_neg hc] at h; cases h
theorem ot {α : Type} {c : Prop} {d : Decidable c} {a b : Option α} {r : α} (hc : c) (h : (@ite _ c d a b) = some r) : a = some r := by rw [if_pos hc] at h; exact h
theorem of {α : Type} {c : Prop} {d : Decidable c} {a b : Option α} {r : α} (hc : ¬ c) (h : (@ite _ c d a b) = some r) : b = some r := by rw [if_neg hc] at h; exact h
theorem ob {α β : Type} {o : Option α} {K : α → Option β} {r : β} (h : o.bind K = some r) : ∃ u, o = some u ∧ K u = some r := by
  cases o with
  | none => cases h
  | some u => exact ⟨u, rfl, h⟩
abbrev nz (r : Int32) : Prop := r = 0 ∨ r = 1
theorem nz_nar {r : Int32} (h : nz r) : narrow .boolean (.int r) = .int r := by
  rcases h with rfl | rfl <;> decide
/-- a loop's fuel -/
def FU : Nat := 1000
end
section
theorem dX0_init_0 : decode cX0_init 0 = .ok (.aload_n 0, 1) := by decide +kernel
theorem dX0_init_1 : decode cX0_init 1 = .ok (.invokespecial 5, 3) := by decide +kernel
theorem dX0_init_4 : decode cX0_init 4 = .ok (.aload_n 0, 1) := by decide +kernel
theorem dX0_init_5 : decode cX0_init 5 = .ok (.sipush 154, 3) := by decide +kernel
theorem dX0_init_8 : decode cX0_init 8 = .ok (.newarray .int, 2) := by decide +kernel
theorem dX0_init_10 : decode cX0_init 10 = .ok (.putfield 11, 3) := by decide +kernel
theorem dX0_init_13 : decode cX0_init 13 = .ok (.aload_n 0, 1) := by decide +kernel
theorem dX0_init_14 : decode cX0_init 14 = .ok (.invokevirtual 15, 3) := by decide +kernel
theorem dX0_init_17 : decode cX0_init 17 = .ok (.return_, 1) := by decide +kernel
theorem dX0_begin_0 : decode cX0_begin 0 = .ok (.aload_n 0, 1) := by decide +kernel
theorem dX0_begin_1 : decode cX0_begin 1 = .ok (.iconst 0, 1) := by decide +kernel
theorem dX0_begin_2 : decode cX0_begin 2 = .ok (.putfield 18, 3) := by decide +kernel
theorem dX0_begin_5 : decode cX0_begin 5 = .ok (.aload_n 0, 1) := by decide +kernel
theorem dX0_begin_6 : decode cX0_begin 6 = .ok (.getfield 11, 3) := by decide +kernel
theorem dX0_begin_9 : decode cX0_begin 9 = .ok (.iconst 0, 1) := by decide +kernel
theorem dX0_begin_10 : decode cX0_begin 10 = .ok (.iconst 0, 1) := by decide +kernel
theorem dX0_begin_11 : decode cX0_begin 11 = .ok (.iastore, 1) := by decide +kernel
theorem dX0_begin_12 : decode cX0_begin 12 = .ok (.aload_n 0, 1) := by decide +kernel
theorem dX0_begin_13 : decode cX0_begin 13 = .ok (.getfield 11, 3) := by decide +kernel
theorem dX0_begin_16 : decode cX0_begin 16 = .ok (.iconst 1, 1) := by decide +kernel
theorem dX0_begin_17 : decode cX0_begin 17 = .ok (.iconst 0, 1) := by decide +kernel
theorem dX0_begin_18 : decode cX0_begin 18 = .ok (.iastore, 1) := by decide +kernel
theorem dX0_begin_19 : decode cX0_begin 19 = .ok (.iconst 0, 1) := by decide +kernel
theorem dX0_begin_20 : decode cX0_begin 20 = .ok (.istore_n 1, 1) := by decide +kernel
theorem dX0_begin_21 : decode cX0_begin 21 = .ok (.iload_n 1, 1) := by decide +kernel
theorem dX0_begin_22 : decode cX0_begin 22 = .ok (.bipush 6, 2) := by decide +kernel
theorem dX0_begin_24 : decode cX0_begin 24 = .ok (.if_icmp .ge 29, 3) := by decide +kernel
theorem dX0_begin_27 : decode cX0_begin 27 = .ok (.aload_n 0, 1) := by decide +kernel
theorem dX0_begin_28 : decode cX0_begin 28 = .ok (.getfield 11, 3) := by decide +kernel
theorem dX0_begin_31 : decode cX0_begin 31 = .ok (.iconst 2, 1) := by decide +kernel
theorem dX0_begin_32 : decode cX0_begin 32 = .ok (.iload_n 1, 1) := by decide +kernel
theorem dX0_begin_33 : decode cX0_begin 33 = .ok (.iadd, 1) := by decide +kernel
theorem dX0_begin_34 : decode cX0_begin 34 = .ok (.bipush (-9), 2) := by decide +kernel
theorem dX0_begin_36 : decode cX0_begin 36 = .ok (.iastore, 1) := by decide +kernel
theorem dX0_begin_37 : decode cX0_begin 37 = .ok (.aload_n 0, 1) := by decide +kernel
theorem dX0_begin_38 : decode cX0_begin 38 = .ok (.getfield 11, 3) := by decide +kernel
theorem dX0_begin_41 : decode cX0_begin 41 = .ok (.bipush 8, 2) := by decide +kernel
theorem dX0_begin_43 : decode cX0_begin 43 = .ok (.iload_n 1, 1) := by decide +kernel
theorem dX0_begin_44 : decode cX0_begin 44 = .ok (.iadd, 1) := by decide +kernel
theorem dX0_begin_45 : decode cX0_begin 45 = .ok (.iconst 0, 1) := by decide +kernel
theorem dX0_begin_46 : decode cX0_begin 46 = .ok (.iastore, 1) := by decide +kernel
theorem dX0_begin_47 : decode cX0_begin 47 = .ok (.iinc 1 1, 3) := by decide +kernel
theorem dX0_begin_50 : decode cX0_begin 50 = .ok (.goto (-29), 3) := by decide +kernel
theorem dX0_begin_53 : decode cX0_begin 53 = .ok (.return_, 1) := by decide +kernel
theorem dX0_copyAll_0 : decode cX0_copyAll 0 = .ok (.aload_n 1, 1) := by decide +kernel
theorem dX0_copyAll_1 : decode cX0_copyAll 1 = .ok (.getfield 11, 3) := by decide +kernel
theorem dX0_copyAll_4 : decode cX0_copyAll 4 = .ok (.iconst 0, 1) := by decide +kernel
theorem dX0_copyAll_5 : decode cX0_copyAll 5 = .ok (.aload_n 0, 1) := by decide +kernel
theorem dX0_copyAll_6 : decode cX0_copyAll 6 = .ok (.getfield 11, 3) := by decide +kernel
theorem dX0_copyAll_9 : decode cX0_copyAll 9 = .ok (.iconst 0, 1) := by decide +kernel
theorem dX0_copyAll_10 : decode cX0_copyAll 10 = .ok (.aload_n 0, 1) := by decide +kernel
theorem dX0_copyAll_11 : decode cX0_copyAll 11 = .ok (.getfield 11, 3) := by decide +kernel
theorem dX0_copyAll_14 : decode cX0_copyAll 14 = .ok (.arraylength, 1) := by decide +kernel
theorem dX0_copyAll_15 : decode cX0_copyAll 15 = .ok (.invokestatic 22, 3) := by decide +kernel
theorem dX0_copyAll_18 : decode cX0_copyAll 18 = .ok (.aload_n 0, 1) := by decide +kernel
theorem dX0_copyAll_19 : decode cX0_copyAll 19 = .ok (.aload_n 1, 1) := by decide +kernel
theorem dX0_copyAll_20 : decode cX0_copyAll 20 = .ok (.getfield 18, 3) := by decide +kernel
theorem dX0_copyAll_23 : decode cX0_copyAll 23 = .ok (.putfield 18, 3) := by decide +kernel
theorem dX0_copyAll_26 : decode cX0_copyAll 26 = .ok (.return_, 1) := by decide +kernel
theorem dX0_copyNow_0 : decode cX0_copyNow 0 = .ok (.aload_n 1, 1) := by decide +kernel
theorem dX0_copyNow_1 : decode cX0_copyNow 1 = .ok (.getfield 11, 3) := by decide +kernel
theorem dX0_copyNow_4 : decode cX0_copyNow 4 = .ok (.aload_n 1, 1) := by decide +kernel
theorem dX0_copyNow_5 : decode cX0_copyNow 5 = .ok (.invokevirtual 28, 3) := by decide +kernel
theorem dX0_copyNow_8 : decode cX0_copyNow 8 = .ok (.aload_n 0, 1) := by decide +kernel
theorem dX0_copyNow_9 : decode cX0_copyNow 9 = .ok (.getfield 11, 3) := by decide +kernel
theorem dX0_copyNow_12 : decode cX0_copyNow 12 = .ok (.iconst 0, 1) := by decide +kernel
theorem dX0_copyNow_13 : decode cX0_copyNow 13 = .ok (.bipush 14, 2) := by decide +kernel
theorem dX0_copyNow_15 : decode cX0_copyNow 15 = .ok (.invokestatic 22, 3) := by decide +kernel
theorem dX0_copyNow_18 : decode cX0_copyNow 18 = .ok (.aload_n 0, 1) := by decide +kernel
theorem dX0_copyNow_19 : decode cX0_copyNow 19 = .ok (.iconst 0, 1) := by decide +kernel
theorem dX0_copyNow_20 : decode cX0_copyNow 20 = .ok (.putfield 18, 3) := by decide +kernel
theorem dX0_copyNow_23 : decode cX0_copyNow 23 = .ok (.return_, 1) := by decide +kernel
theorem dX0_remember_0 : decode cX0_remember 0 = .ok (.aload_n 0, 1) := by decide +kernel
theorem dX0_remember_1 : decode cX0_remember 1 = .ok (.getfield 18, 3) := by decide +kernel
theorem dX0_remember_4 : decode cX0_remember 4 = .ok (.bipush 10, 2) := by decide +kernel
theorem dX0_remember_6 : decode cX0_remember 6 = .ok (.if_icmp .ge 40, 3) := by decide +kernel
theorem dX0_remember_9 : decode cX0_remember 9 = .ok (.aload_n 0, 1) := by decide +kernel
theorem dX0_remember_10 : decode cX0_remember 10 = .ok (.getfield 11, 3) := by decide +kernel
theorem dX0_remember_13 : decode cX0_remember 13 = .ok (.aload_n 0, 1) := by decide +kernel
theorem dX0_remember_14 : decode cX0_remember 14 = .ok (.invokevirtual 28, 3) := by decide +kernel
theorem dX0_remember_17 : decode cX0_remember 17 = .ok (.aload_n 0, 1) := by decide +kernel
theorem dX0_remember_18 : decode cX0_remember 18 = .ok (.getfield 11, 3) := by decide +kernel
theorem dX0_remember_21 : decode cX0_remember 21 = .ok (.aload_n 0, 1) := by decide +kernel
theorem dX0_remember_22 : decode cX0_remember 22 = .ok (.invokevirtual 28, 3) := by decide +kernel
theorem dX0_remember_25 : decode cX0_remember 25 = .ok (.bipush 14, 2) := by decide +kernel
theorem dX0_remember_27 : decode cX0_remember 27 = .ok (.iadd, 1) := by decide +kernel
theorem dX0_remember_28 : decode cX0_remember 28 = .ok (.bipush 14, 2) := by decide +kernel
theorem dX0_remember_30 : decode cX0_remember 30 = .ok (.invokestatic 22, 3) := by decide +kernel
theorem dX0_remember_33 : decode cX0_remember 33 = .ok (.aload_n 0, 1) := by decide +kernel
theorem dX0_remember_34 : decode cX0_remember 34 = .ok (.dup, 1) := by decide +kernel
theorem dX0_remember_35 : decode cX0_remember 35 = .ok (.getfield 18, 3) := by decide +kernel
theorem dX0_remember_38 : decode cX0_remember 38 = .ok (.iconst 1, 1) := by decide +kernel
theorem dX0_remember_39 : decode cX0_remember 39 = .ok (.iadd, 1) := by decide +kernel
theorem dX0_remember_40 : decode cX0_remember 40 = .ok (.putfield 18, 3) := by decide +kernel
theorem dX0_remember_43 : decode cX0_remember 43 = .ok (.goto 20, 3) := by decide +kernel
theorem dX0_remember_46 : decode cX0_remember 46 = .ok (.aload_n 0, 1) := by decide +kernel
theorem dX0_remember_47 : decode cX0_remember 47 = .ok (.getfield 11, 3) := by decide +kernel
theorem dX0_remember_50 : decode cX0_remember 50 = .ok (.bipush 14, 2) := by decide +kernel
theorem dX0_remember_52 : decode cX0_remember 52 = .ok (.aload_n 0, 1) := by decide +kernel
theorem dX0_remember_53 : decode cX0_remember 53 = .ok (.getfield 11, 3) := by decide +kernel
theorem dX0_remember_56 : decode cX0_remember 56 = .ok (.iconst 0, 1) := by decide +kernel
theorem dX0_remember_57 : decode cX0_remember 57 = .ok (.sipush 140, 3) := by decide +kernel
theorem dX0_remember_60 : decode cX0_remember 60 = .ok (.invokestatic 22, 3) := by decide +kernel
theorem dX0_remember_63 : decode cX0_remember 63 = .ok (.return_, 1) := by decide +kernel
theorem dX0_takeBack_0 : decode cX0_takeBack 0 = .ok (.aload_n 0, 1) := by decide +kernel
theorem dX0_takeBack_1 : decode cX0_takeBack 1 = .ok (.getfield 18, 3) := by decide +kernel
theorem dX0_takeBack_4 : decode cX0_takeBack 4 = .ok (.ifCond .gt 5, 3) := by decide +kernel
theorem dX0_takeBack_7 : decode cX0_takeBack 7 = .ok (.iconst 0, 1) := by decide +kernel
theorem dX0_takeBack_8 : decode cX0_takeBack 8 = .ok (.ireturn, 1) := by decide +kernel
theorem dX0_takeBack_9 : decode cX0_takeBack 9 = .ok (.aload_n 0, 1) := by decide +kernel
theorem dX0_takeBack_10 : decode cX0_takeBack 10 = .ok (.dup, 1) := by decide +kernel
theorem dX0_takeBack_11 : decode cX0_takeBack 11 = .ok (.getfield 18, 3) := by decide +kernel
theorem dX0_takeBack_14 : decode cX0_takeBack 14 = .ok (.iconst 1, 1) := by decide +kernel
theorem dX0_takeBack_15 : decode cX0_takeBack 15 = .ok (.isub, 1) := by decide +kernel
theorem dX0_takeBack_16 : decode cX0_takeBack 16 = .ok (.putfield 18, 3) := by decide +kernel
theorem dX0_takeBack_19 : decode cX0_takeBack 19 = .ok (.iconst 1, 1) := by decide +kernel
theorem dX0_takeBack_20 : decode cX0_takeBack 20 = .ok (.ireturn, 1) := by decide +kernel
theorem dX0_known_0 : decode cX0_known 0 = .ok (.aload_n 0, 1) := by decide +kernel
theorem dX0_known_1 : decode cX0_known 1 = .ok (.getfield 18, 3) := by decide +kernel
theorem dX0_known_4 : decode cX0_known 4 = .ok (.ireturn, 1) := by decide +kernel
theorem dX0_minute_0 : decode cX0_minute 0 = .ok (.aload_n 0, 1) := by decide +kernel
theorem dX0_minute_1 : decode cX0_minute 1 = .ok (.getfield 11, 3) := by decide +kernel
theorem dX0_minute_4 : decode cX0_minute 4 = .ok (.aload_n 0, 1) := by decide +kernel
theorem dX0_minute_5 : decode cX0_minute 5 = .ok (.invokevirtual 28, 3) := by decide +kernel
theorem dX0_minute_8 : decode cX0_minute 8 = .ok (.iconst 0, 1) := by decide +kernel
theorem dX0_minute_9 : decode cX0_minute 9 = .ok (.iadd, 1) := by decide +kernel
theorem dX0_minute_10 : decode cX0_minute 10 = .ok (.iaload, 1) := by decide +kernel
theorem dX0_minute_11 : decode cX0_minute 11 = .ok (.ireturn, 1) := by decide +kernel
theorem dX0_shutBits_0 : decode cX0_shutBits 0 = .ok (.aload_n 0, 1) := by decide +kernel
theorem dX0_shutBits_1 : decode cX0_shutBits 1 = .ok (.getfield 11, 3) := by decide +kernel
theorem dX0_shutBits_4 : decode cX0_shutBits 4 = .ok (.aload_n 0, 1) := by decide +kernel
theorem dX0_shutBits_5 : decode cX0_shutBits 5 = .ok (.invokevirtual 28, 3) := by decide +kernel
theorem dX0_shutBits_8 : decode cX0_shutBits 8 = .ok (.iconst 1, 1) := by decide +kernel
theorem dX0_shutBits_9 : decode cX0_shutBits 9 = .ok (.iadd, 1) := by decide +kernel
theorem dX0_shutBits_10 : decode cX0_shutBits 10 = .ok (.iaload, 1) := by decide +kernel
theorem dX0_shutBits_11 : decode cX0_shutBits 11 = .ok (.ireturn, 1) := by decide +kernel
theorem dX0_isShut_0 : decode cX0_isShut 0 = .ok (.aload_n 0, 1) := by decide +kernel
theorem dX0_isShut_1 : decode cX0_isShut 1 = .ok (.invokevirtual 32, 3) := by decide +kernel
theorem dX0_isShut_4 : decode cX0_isShut 4 = .ok (.iconst 1, 1) := by decide +kernel
theorem dX0_isShut_5 : decode cX0_isShut 5 = .ok (.iload_n 1, 1) := by decide +kernel
theorem dX0_isShut_6 : decode cX0_isShut 6 = .ok (.ishl, 1) := by decide +kernel
theorem dX0_isShut_7 : decode cX0_isShut 7 = .ok (.iand, 1) := by decide +kernel
theorem dX0_isShut_8 : decode cX0_isShut 8 = .ok (.ifCond .eq 7, 3) := by decide +kernel
theorem dX0_isShut_11 : decode cX0_isShut 11 = .ok (.iconst 1, 1) := by decide +kernel
theorem dX0_isShut_12 : decode cX0_isShut 12 = .ok (.goto 4, 3) := by decide +kernel
theorem dX0_isShut_15 : decode cX0_isShut 15 = .ok (.iconst 0, 1) := by decide +kernel
theorem dX0_isShut_16 : decode cX0_isShut 16 = .ok (.ireturn, 1) := by decide +kernel
theorem dX0_turnDoor_0 : decode cX0_turnDoor 0 = .ok (.aload_n 0, 1) := by decide +kernel
theorem dX0_turnDoor_1 : decode cX0_turnDoor 1 = .ok (.getfield 11, 3) := by decide +kernel
theorem dX0_turnDoor_4 : decode cX0_turnDoor 4 = .ok (.aload_n 0, 1) := by decide +kernel
theorem dX0_turnDoor_5 : decode cX0_turnDoor 5 = .ok (.invokevirtual 28, 3) := by decide +kernel
theorem dX0_turnDoor_8 : decode cX0_turnDoor 8 = .ok (.iconst 1, 1) := by decide +kernel
theorem dX0_turnDoor_9 : decode cX0_turnDoor 9 = .ok (.iadd, 1) := by decide +kernel
theorem dX0_turnDoor_10 : decode cX0_turnDoor 10 = .ok (.dup2, 1) := by decide +kernel
theorem dX0_turnDoor_11 : decode cX0_turnDoor 11 = .ok (.iaload, 1) := by decide +kernel
theorem dX0_turnDoor_12 : decode cX0_turnDoor 12 = .ok (.iconst 1, 1) := by decide +kernel
theorem dX0_turnDoor_13 : decode cX0_turnDoor 13 = .ok (.iload_n 1, 1) := by decide +kernel
theorem dX0_turnDoor_14 : decode cX0_turnDoor 14 = .ok (.ishl, 1) := by decide +kernel
theorem dX0_turnDoor_15 : decode cX0_turnDoor 15 = .ok (.ixor, 1) := by decide +kernel
theorem dX0_turnDoor_16 : decode cX0_turnDoor 16 = .ok (.iastore, 1) := by decide +kernel
theorem dX0_turnDoor_17 : decode cX0_turnDoor 17 = .ok (.return_, 1) := by decide +kernel
theorem dX0_place_0 : decode cX0_place 0 = .ok (.iload_n 1, 1) := by decide +kernel
theorem dX0_place_1 : decode cX0_place 1 = .ok (.invokestatic 35, 3) := by decide +kernel
theorem dX0_place_4 : decode cX0_place 4 = .ok (.ifCond .eq 19, 3) := by decide +kernel
theorem dX0_place_7 : decode cX0_place 7 = .ok (.aload_n 0, 1) := by decide +kernel
theorem dX0_place_8 : decode cX0_place 8 = .ok (.getfield 11, 3) := by decide +kernel
theorem dX0_place_11 : decode cX0_place 11 = .ok (.aload_n 0, 1) := by decide +kernel
theorem dX0_place_12 : decode cX0_place 12 = .ok (.invokevirtual 28, 3) := by decide +kernel
theorem dX0_place_15 : decode cX0_place 15 = .ok (.iconst 2, 1) := by decide +kernel
theorem dX0_place_16 : decode cX0_place 16 = .ok (.iadd, 1) := by decide +kernel
theorem dX0_place_17 : decode cX0_place 17 = .ok (.iload_n 1, 1) := by decide +kernel
theorem dX0_place_18 : decode cX0_place 18 = .ok (.iadd, 1) := by decide +kernel
theorem dX0_place_19 : decode cX0_place 19 = .ok (.iaload, 1) := by decide +kernel
theorem dX0_place_20 : decode cX0_place 20 = .ok (.goto 5, 3) := by decide +kernel
theorem dX0_place_23 : decode cX0_place 23 = .ok (.bipush (-9), 2) := by decide +kernel
theorem dX0_place_25 : decode cX0_place 25 = .ok (.ireturn, 1) := by decide +kernel
theorem dX0_baked_0 : decode cX0_baked 0 = .ok (.iload_n 1, 1) := by decide +kernel
theorem dX0_baked_1 : decode cX0_baked 1 = .ok (.invokestatic 35, 3) := by decide +kernel
theorem dX0_baked_4 : decode cX0_baked 4 = .ok (.ifCond .eq 20, 3) := by decide +kernel
theorem dX0_baked_7 : decode cX0_baked 7 = .ok (.aload_n 0, 1) := by decide +kernel
theorem dX0_baked_8 : decode cX0_baked 8 = .ok (.getfield 11, 3) := by decide +kernel
theorem dX0_baked_11 : decode cX0_baked 11 = .ok (.aload_n 0, 1) := by decide +kernel
theorem dX0_baked_12 : decode cX0_baked 12 = .ok (.invokevirtual 28, 3) := by decide +kernel
theorem dX0_baked_15 : decode cX0_baked 15 = .ok (.bipush 8, 2) := by decide +kernel
theorem dX0_baked_17 : decode cX0_baked 17 = .ok (.iadd, 1) := by decide +kernel
theorem dX0_baked_18 : decode cX0_baked 18 = .ok (.iload_n 1, 1) := by decide +kernel
theorem dX0_baked_19 : decode cX0_baked 19 = .ok (.iadd, 1) := by decide +kernel
theorem dX0_baked_20 : decode cX0_baked 20 = .ok (.iaload, 1) := by decide +kernel
theorem dX0_baked_21 : decode cX0_baked 21 = .ok (.goto 4, 3) := by decide +kernel
theorem dX0_baked_24 : decode cX0_baked 24 = .ok (.iconst 0, 1) := by decide +kernel
theorem dX0_baked_25 : decode cX0_baked 25 = .ok (.ireturn, 1) := by decide +kernel
theorem dX0_putIn_0 : decode cX0_putIn 0 = .ok (.iload_n 1, 1) := by decide +kernel
theorem dX0_putIn_1 : decode cX0_putIn 1 = .ok (.invokestatic 35, 3) := by decide +kernel
theorem dX0_putIn_4 : decode cX0_putIn 4 = .ok (.ifCond .eq 32, 3) := by decide +kernel
theorem dX0_putIn_7 : decode cX0_putIn 7 = .ok (.aload_n 0, 1) := by decide +kernel
theorem dX0_putIn_8 : decode cX0_putIn 8 = .ok (.getfield 11, 3) := by decide +kernel
theorem dX0_putIn_11 : decode cX0_putIn 11 = .ok (.aload_n 0, 1) := by decide +kernel
theorem dX0_putIn_12 : decode cX0_putIn 12 = .ok (.invokevirtual 28, 3) := by decide +kernel
theorem dX0_putIn_15 : decode cX0_putIn 15 = .ok (.iconst 2, 1) := by decide +kernel
theorem dX0_putIn_16 : decode cX0_putIn 16 = .ok (.iadd, 1) := by decide +kernel
theorem dX0_putIn_17 : decode cX0_putIn 17 = .ok (.iload_n 1, 1) := by decide +kernel
theorem dX0_putIn_18 : decode cX0_putIn 18 = .ok (.iadd, 1) := by decide +kernel
theorem dX0_putIn_19 : decode cX0_putIn 19 = .ok (.iload_n 2, 1) := by decide +kernel
theorem dX0_putIn_20 : decode cX0_putIn 20 = .ok (.iastore, 1) := by decide +kernel
theorem dX0_putIn_21 : decode cX0_putIn 21 = .ok (.aload_n 0, 1) := by decide +kernel
theorem dX0_putIn_22 : decode cX0_putIn 22 = .ok (.getfield 11, 3) := by decide +kernel
theorem dX0_putIn_25 : decode cX0_putIn 25 = .ok (.aload_n 0, 1) := by decide +kernel
theorem dX0_putIn_26 : decode cX0_putIn 26 = .ok (.invokevirtual 28, 3) := by decide +kernel
theorem dX0_putIn_29 : decode cX0_putIn 29 = .ok (.bipush 8, 2) := by decide +kernel
theorem dX0_putIn_31 : decode cX0_putIn 31 = .ok (.iadd, 1) := by decide +kernel
theorem dX0_putIn_32 : decode cX0_putIn 32 = .ok (.iload_n 1, 1) := by decide +kernel
theorem dX0_putIn_33 : decode cX0_putIn 33 = .ok (.iadd, 1) := by decide +kernel
theorem dX0_putIn_34 : decode cX0_putIn 34 = .ok (.iconst 0, 1) := by decide +kernel
theorem dX0_putIn_35 : decode cX0_putIn 35 = .ok (.iastore, 1) := by decide +kernel
theorem dX0_putIn_36 : decode cX0_putIn 36 = .ok (.return_, 1) := by decide +kernel
theorem dX0_placedAt_0 : decode cX0_placedAt 0 = .ok (.iconst 0, 1) := by decide +kernel
theorem dX0_placedAt_1 : decode cX0_placedAt 1 = .ok (.istore_n 3, 1) := by decide +kernel
theorem dX0_placedAt_2 : decode cX0_placedAt 2 = .ok (.iconst 0, 1) := by decide +kernel
theorem dX0_placedAt_3 : decode cX0_placedAt 3 = .ok (.istore 4, 2) := by decide +kernel
theorem dX0_placedAt_5 : decode cX0_placedAt 5 = .ok (.iload 4, 2) := by decide +kernel
theorem dX0_placedAt_7 : decode cX0_placedAt 7 = .ok (.aload_n 1, 1) := by decide +kernel
theorem dX0_placedAt_8 : decode cX0_placedAt 8 = .ok (.invokevirtual 39, 3) := by decide +kernel
theorem dX0_placedAt_11 : decode cX0_placedAt 11 = .ok (.if_icmp .ge 26, 3) := by decide +kernel
theorem dX0_placedAt_14 : decode cX0_placedAt 14 = .ok (.aload_n 0, 1) := by decide +kernel
theorem dX0_placedAt_15 : decode cX0_placedAt 15 = .ok (.iload 4, 2) := by decide +kernel
theorem dX0_placedAt_17 : decode cX0_placedAt 17 = .ok (.invokevirtual 44, 3) := by decide +kernel
theorem dX0_placedAt_20 : decode cX0_placedAt 20 = .ok (.iload_n 2, 1) := by decide +kernel
theorem dX0_placedAt_21 : decode cX0_placedAt 21 = .ok (.if_icmp .ne 10, 3) := by decide +kernel
theorem dX0_placedAt_24 : decode cX0_placedAt 24 = .ok (.iload_n 3, 1) := by decide +kernel
theorem dX0_placedAt_25 : decode cX0_placedAt 25 = .ok (.iconst 1, 1) := by decide +kernel
theorem dX0_placedAt_26 : decode cX0_placedAt 26 = .ok (.iload 4, 2) := by decide +kernel
theorem dX0_placedAt_28 : decode cX0_placedAt 28 = .ok (.ishl, 1) := by decide +kernel
theorem dX0_placedAt_29 : decode cX0_placedAt 29 = .ok (.ior, 1) := by decide +kernel
theorem dX0_placedAt_30 : decode cX0_placedAt 30 = .ok (.istore_n 3, 1) := by decide +kernel
theorem dX0_placedAt_31 : decode cX0_placedAt 31 = .ok (.iinc 4 1, 3) := by decide +kernel
theorem dX0_placedAt_34 : decode cX0_placedAt 34 = .ok (.goto (-29), 3) := by decide +kernel
theorem dX0_placedAt_37 : decode cX0_placedAt 37 = .ok (.iload_n 3, 1) := by decide +kernel
theorem dX0_placedAt_38 : decode cX0_placedAt 38 = .ok (.ireturn, 1) := by decide +kernel
theorem dX0_hot_0 : decode cX0_hot 0 = .ok (.aload_n 0, 1) := by decide +kernel
theorem dX0_hot_1 : decode cX0_hot 1 = .ok (.aload_n 1, 1) := by decide +kernel
theorem dX0_hot_2 : decode cX0_hot 2 = .ok (.iload_n 2, 1) := by decide +kernel
theorem dX0_hot_3 : decode cX0_hot 3 = .ok (.invokevirtual 48, 3) := by decide +kernel
theorem dX0_hot_6 : decode cX0_hot 6 = .ok (.invokestatic 52, 3) := by decide +kernel
theorem dX0_hot_9 : decode cX0_hot 9 = .ok (.istore_n 3, 1) := by decide +kernel
theorem dX0_hot_10 : decode cX0_hot 10 = .ok (.aload_n 1, 1) := by decide +kernel
theorem dX0_hot_11 : decode cX0_hot 11 = .ok (.iload_n 2, 1) := by decide +kernel
theorem dX0_hot_12 : decode cX0_hot 12 = .ok (.iconst 0, 1) := by decide +kernel
theorem dX0_hot_13 : decode cX0_hot 13 = .ok (.invokevirtual 57, 3) := by decide +kernel
theorem dX0_hot_16 : decode cX0_hot 16 = .ok (.bipush 10, 2) := by decide +kernel
theorem dX0_hot_18 : decode cX0_hot 18 = .ok (.iload_n 3, 1) := by decide +kernel
theorem dX0_hot_19 : decode cX0_hot 19 = .ok (.isub, 1) := by decide +kernel
theorem dX0_hot_20 : decode cX0_hot 20 = .ok (.imul, 1) := by decide +kernel
theorem dX0_hot_21 : decode cX0_hot 21 = .ok (.bipush 10, 2) := by decide +kernel
theorem dX0_hot_23 : decode cX0_hot 23 = .ok (.idiv, 1) := by decide +kernel
theorem dX0_hot_24 : decode cX0_hot 24 = .ok (.ireturn, 1) := by decide +kernel
theorem dX0_passMinute_0 : decode cX0_passMinute 0 = .ok (.aload_n 0, 1) := by decide +kernel
theorem dX0_passMinute_1 : decode cX0_passMinute 1 = .ok (.getfield 11, 3) := by decide +kernel
theorem dX0_passMinute_4 : decode cX0_passMinute 4 = .ok (.aload_n 0, 1) := by decide +kernel
theorem dX0_passMinute_5 : decode cX0_passMinute 5 = .ok (.invokevirtual 28, 3) := by decide +kernel
theorem dX0_passMinute_8 : decode cX0_passMinute 8 = .ok (.iconst 0, 1) := by decide +kernel
theorem dX0_passMinute_9 : decode cX0_passMinute 9 = .ok (.iadd, 1) := by decide +kernel
theorem dX0_passMinute_10 : decode cX0_passMinute 10 = .ok (.dup2, 1) := by decide +kernel
theorem dX0_passMinute_11 : decode cX0_passMinute 11 = .ok (.iaload, 1) := by decide +kernel
theorem dX0_passMinute_12 : decode cX0_passMinute 12 = .ok (.iconst 1, 1) := by decide +kernel
theorem dX0_passMinute_13 : decode cX0_passMinute 13 = .ok (.iadd, 1) := by decide +kernel
theorem dX0_passMinute_14 : decode cX0_passMinute 14 = .ok (.iastore, 1) := by decide +kernel
theorem dX0_passMinute_15 : decode cX0_passMinute 15 = .ok (.iconst 0, 1) := by decide +kernel
theorem dX0_passMinute_16 : decode cX0_passMinute 16 = .ok (.istore_n 2, 1) := by decide +kernel
theorem dX0_passMinute_17 : decode cX0_passMinute 17 = .ok (.iload_n 2, 1) := by decide +kernel
theorem dX0_passMinute_18 : decode cX0_passMinute 18 = .ok (.aload_n 1, 1) := by decide +kernel
theorem dX0_passMinute_19 : decode cX0_passMinute 19 = .ok (.invokevirtual 39, 3) := by decide +kernel
theorem dX0_passMinute_22 : decode cX0_passMinute 22 = .ok (.if_icmp .ge 48, 3) := by decide +kernel
theorem dX0_passMinute_25 : decode cX0_passMinute 25 = .ok (.aload_n 1, 1) := by decide +kernel
theorem dX0_passMinute_26 : decode cX0_passMinute 26 = .ok (.aload_n 0, 1) := by decide +kernel
theorem dX0_passMinute_27 : decode cX0_passMinute 27 = .ok (.iload_n 2, 1) := by decide +kernel
theorem dX0_passMinute_28 : decode cX0_passMinute 28 = .ok (.invokevirtual 44, 3) := by decide +kernel
theorem dX0_passMinute_31 : decode cX0_passMinute 31 = .ok (.invokevirtual 61, 3) := by decide +kernel
theorem dX0_passMinute_34 : decode cX0_passMinute 34 = .ok (.ifCond .eq 30, 3) := by decide +kernel
theorem dX0_passMinute_37 : decode cX0_passMinute 37 = .ok (.aload_n 0, 1) := by decide +kernel
theorem dX0_passMinute_38 : decode cX0_passMinute 38 = .ok (.getfield 11, 3) := by decide +kernel
theorem dX0_passMinute_41 : decode cX0_passMinute 41 = .ok (.aload_n 0, 1) := by decide +kernel
theorem dX0_passMinute_42 : decode cX0_passMinute 42 = .ok (.invokevirtual 28, 3) := by decide +kernel
theorem dX0_passMinute_45 : decode cX0_passMinute 45 = .ok (.bipush 8, 2) := by decide +kernel
theorem dX0_passMinute_47 : decode cX0_passMinute 47 = .ok (.iadd, 1) := by decide +kernel
theorem dX0_passMinute_48 : decode cX0_passMinute 48 = .ok (.iload_n 2, 1) := by decide +kernel
theorem dX0_passMinute_49 : decode cX0_passMinute 49 = .ok (.iadd, 1) := by decide +kernel
theorem dX0_passMinute_50 : decode cX0_passMinute 50 = .ok (.dup2, 1) := by decide +kernel
theorem dX0_passMinute_51 : decode cX0_passMinute 51 = .ok (.iaload, 1) := by decide +kernel
theorem dX0_passMinute_52 : decode cX0_passMinute 52 = .ok (.aload_n 0, 1) := by decide +kernel
theorem dX0_passMinute_53 : decode cX0_passMinute 53 = .ok (.aload_n 1, 1) := by decide +kernel
theorem dX0_passMinute_54 : decode cX0_passMinute 54 = .ok (.aload_n 0, 1) := by decide +kernel
theorem dX0_passMinute_55 : decode cX0_passMinute 55 = .ok (.iload_n 2, 1) := by decide +kernel
theorem dX0_passMinute_56 : decode cX0_passMinute 56 = .ok (.invokevirtual 44, 3) := by decide +kernel
theorem dX0_passMinute_59 : decode cX0_passMinute 59 = .ok (.invokevirtual 64, 3) := by decide +kernel
theorem dX0_passMinute_62 : decode cX0_passMinute 62 = .ok (.iadd, 1) := by decide +kernel
theorem dX0_passMinute_63 : decode cX0_passMinute 63 = .ok (.iastore, 1) := by decide +kernel
theorem dX0_passMinute_64 : decode cX0_passMinute 64 = .ok (.iinc 2 1, 3) := by decide +kernel
theorem dX0_passMinute_67 : decode cX0_passMinute 67 = .ok (.goto (-50), 3) := by decide +kernel
theorem dX0_passMinute_70 : decode cX0_passMinute 70 = .ok (.iconst 0, 1) := by decide +kernel
theorem dX0_passMinute_71 : decode cX0_passMinute 71 = .ok (.istore_n 2, 1) := by decide +kernel
theorem dX0_passMinute_72 : decode cX0_passMinute 72 = .ok (.iload_n 2, 1) := by decide +kernel
theorem dX0_passMinute_73 : decode cX0_passMinute 73 = .ok (.aload_n 1, 1) := by decide +kernel
theorem dX0_passMinute_74 : decode cX0_passMinute 74 = .ok (.invokevirtual 39, 3) := by decide +kernel
theorem dX0_passMinute_77 : decode cX0_passMinute 77 = .ok (.if_icmp .ge 50, 3) := by decide +kernel
theorem dX0_passMinute_80 : decode cX0_passMinute 80 = .ok (.aload_n 1, 1) := by decide +kernel
theorem dX0_passMinute_81 : decode cX0_passMinute 81 = .ok (.aload_n 0, 1) := by decide +kernel
theorem dX0_passMinute_82 : decode cX0_passMinute 82 = .ok (.iload_n 2, 1) := by decide +kernel
theorem dX0_passMinute_83 : decode cX0_passMinute 83 = .ok (.invokevirtual 44, 3) := by decide +kernel
theorem dX0_passMinute_86 : decode cX0_passMinute 86 = .ok (.invokevirtual 61, 3) := by decide +kernel
theorem dX0_passMinute_89 : decode cX0_passMinute 89 = .ok (.ifCond .eq 32, 3) := by decide +kernel
theorem dX0_passMinute_92 : decode cX0_passMinute 92 = .ok (.aload_n 0, 1) := by decide +kernel
theorem dX0_passMinute_93 : decode cX0_passMinute 93 = .ok (.iload_n 2, 1) := by decide +kernel
theorem dX0_passMinute_94 : decode cX0_passMinute 94 = .ok (.invokevirtual 67, 3) := by decide +kernel
theorem dX0_passMinute_97 : decode cX0_passMinute 97 = .ok (.aload_n 1, 1) := by decide +kernel
theorem dX0_passMinute_98 : decode cX0_passMinute 98 = .ok (.iload_n 2, 1) := by decide +kernel
theorem dX0_passMinute_99 : decode cX0_passMinute 99 = .ok (.iconst 2, 1) := by decide +kernel
theorem dX0_passMinute_100 : decode cX0_passMinute 100 = .ok (.invokevirtual 70, 3) := by decide +kernel
theorem dX0_passMinute_103 : decode cX0_passMinute 103 = .ok (.if_icmp .lt 18, 3) := by decide +kernel
theorem dX0_passMinute_106 : decode cX0_passMinute 106 = .ok (.aload_n 0, 1) := by decide +kernel
theorem dX0_passMinute_107 : decode cX0_passMinute 107 = .ok (.getfield 11, 3) := by decide +kernel
theorem dX0_passMinute_110 : decode cX0_passMinute 110 = .ok (.aload_n 0, 1) := by decide +kernel
theorem dX0_passMinute_111 : decode cX0_passMinute 111 = .ok (.invokevirtual 28, 3) := by decide +kernel
theorem dX0_passMinute_114 : decode cX0_passMinute 114 = .ok (.iconst 2, 1) := by decide +kernel
theorem dX0_passMinute_115 : decode cX0_passMinute 115 = .ok (.iadd, 1) := by decide +kernel
theorem dX0_passMinute_116 : decode cX0_passMinute 116 = .ok (.iload_n 2, 1) := by decide +kernel
theorem dX0_passMinute_117 : decode cX0_passMinute 117 = .ok (.iadd, 1) := by decide +kernel
theorem dX0_passMinute_118 : decode cX0_passMinute 118 = .ok (.bipush (-5), 2) := by decide +kernel
theorem dX0_passMinute_120 : decode cX0_passMinute 120 = .ok (.iastore, 1) := by decide +kernel
theorem dX0_passMinute_121 : decode cX0_passMinute 121 = .ok (.iinc 2 1, 3) := by decide +kernel
theorem dX0_passMinute_124 : decode cX0_passMinute 124 = .ok (.goto (-52), 3) := by decide +kernel
theorem dX0_passMinute_127 : decode cX0_passMinute 127 = .ok (.return_, 1) := by decide +kernel
theorem dX0_base_0 : decode cX0_base 0 = .ok (.aload_n 0, 1) := by decide +kernel
theorem dX0_base_1 : decode cX0_base 1 = .ok (.getfield 18, 3) := by decide +kernel
theorem dX0_base_4 : decode cX0_base 4 = .ok (.bipush 14, 2) := by decide +kernel
theorem dX0_base_6 : decode cX0_base 6 = .ok (.imul, 1) := by decide +kernel
theorem dX0_base_7 : decode cX0_base 7 = .ok (.ireturn, 1) := by decide +kernel
theorem dX0_isPlace_0 : decode cX0_isPlace 0 = .ok (.iload_n 0, 1) := by decide +kernel
theorem dX0_isPlace_1 : decode cX0_isPlace 1 = .ok (.ifCond .lt 13, 3) := by decide +kernel
theorem dX0_isPlace_4 : decode cX0_isPlace 4 = .ok (.iload_n 0, 1) := by decide +kernel
theorem dX0_isPlace_5 : decode cX0_isPlace 5 = .ok (.bipush 6, 2) := by decide +kernel
theorem dX0_isPlace_7 : decode cX0_isPlace 7 = .ok (.if_icmp .ge 7, 3) := by decide +kernel
theorem dX0_isPlace_10 : decode cX0_isPlace 10 = .ok (.iconst 1, 1) := by decide +kernel
theorem dX0_isPlace_11 : decode cX0_isPlace 11 = .ok (.goto 4, 3) := by decide +kernel
theorem dX0_isPlace_14 : decode cX0_isPlace 14 = .ok (.iconst 0, 1) := by decide +kernel
theorem dX0_isPlace_15 : decode cX0_isPlace 15 = .ok (.ireturn, 1) := by decide +kernel
theorem dX1_init_0 : decode cX1_init 0 = .ok (.aload_n 0, 1) := by decide +kernel
theorem dX1_init_1 : decode cX1_init 1 = .ok (.invokespecial 3, 3) := by decide +kernel
theorem dX1_init_4 : decode cX1_init 4 = .ok (.aload_n 0, 1) := by decide +kernel
theorem dX1_init_5 : decode cX1_init 5 = .ok (.bipush 6, 2) := by decide +kernel
theorem dX1_init_7 : decode cX1_init 7 = .ok (.newarray .int, 2) := by decide +kernel
theorem dX1_init_9 : decode cX1_init 9 = .ok (.putfield 9, 3) := by decide +kernel
theorem dX1_init_12 : decode cX1_init 12 = .ok (.aload_n 0, 1) := by decide +kernel
theorem dX1_init_13 : decode cX1_init 13 = .ok (.bipush 6, 2) := by decide +kernel
theorem dX1_init_15 : decode cX1_init 15 = .ok (.newarray .int, 2) := by decide +kernel
theorem dX1_init_17 : decode cX1_init 17 = .ok (.putfield 15, 3) := by decide +kernel
theorem dX1_init_20 : decode cX1_init 20 = .ok (.aload_n 0, 1) := by decide +kernel
theorem dX1_init_21 : decode cX1_init 21 = .ok (.bipush 6, 2) := by decide +kernel
theorem dX1_init_23 : decode cX1_init 23 = .ok (.newarray .int, 2) := by decide +kernel
theorem dX1_init_25 : decode cX1_init 25 = .ok (.putfield 18, 3) := by decide +kernel
theorem dX1_init_28 : decode cX1_init 28 = .ok (.return_, 1) := by decide +kernel
theorem dX1_find_0 : decode cX1_find 0 = .ok (.aload_n 0, 1) := by decide +kernel
theorem dX1_find_1 : decode cX1_find 1 = .ok (.iconst 0, 1) := by decide +kernel
theorem dX1_find_2 : decode cX1_find 2 = .ok (.putfield 21, 3) := by decide +kernel
theorem dX1_find_5 : decode cX1_find 5 = .ok (.aload_n 0, 1) := by decide +kernel
theorem dX1_find_6 : decode cX1_find 6 = .ok (.aload_n 2, 1) := by decide +kernel
theorem dX1_find_7 : decode cX1_find 7 = .ok (.invokevirtual 25, 3) := by decide +kernel
theorem dX1_find_10 : decode cX1_find 10 = .ok (.putfield 31, 3) := by decide +kernel
theorem dX1_find_13 : decode cX1_find 13 = .ok (.aload_n 0, 1) := by decide +kernel
theorem dX1_find_14 : decode cX1_find 14 = .ok (.iload 4, 2) := by decide +kernel
theorem dX1_find_16 : decode cX1_find 16 = .ok (.putfield 34, 3) := by decide +kernel
theorem dX1_find_19 : decode cX1_find 19 = .ok (.aload_n 1, 1) := by decide +kernel
theorem dX1_find_20 : decode cX1_find 20 = .ok (.iload_n 3, 1) := by decide +kernel
theorem dX1_find_21 : decode cX1_find 21 = .ok (.iconst 0, 1) := by decide +kernel
theorem dX1_find_22 : decode cX1_find 22 = .ok (.invokevirtual 37, 3) := by decide +kernel
theorem dX1_find_25 : decode cX1_find 25 = .ok (.bipush 9, 2) := by decide +kernel
theorem dX1_find_27 : decode cX1_find 27 = .ok (.imul, 1) := by decide +kernel
theorem dX1_find_28 : decode cX1_find 28 = .ok (.bipush 10, 2) := by decide +kernel
theorem dX1_find_30 : decode cX1_find 30 = .ok (.idiv, 1) := by decide +kernel
theorem dX1_find_31 : decode cX1_find 31 = .ok (.istore 5, 2) := by decide +kernel
theorem dX1_find_33 : decode cX1_find 33 = .ok (.iload 5, 2) := by decide +kernel
theorem dX1_find_35 : decode cX1_find 35 = .ok (.ifCond .gt 4, 3) := by decide +kernel
theorem dX1_find_38 : decode cX1_find 38 = .ok (.return_, 1) := by decide +kernel
theorem dX1_find_39 : decode cX1_find 39 = .ok (.iconst 0, 1) := by decide +kernel
theorem dX1_find_40 : decode cX1_find 40 = .ok (.istore 6, 2) := by decide +kernel
theorem dX1_find_42 : decode cX1_find 42 = .ok (.iload 6, 2) := by decide +kernel
theorem dX1_find_44 : decode cX1_find 44 = .ok (.aload_n 1, 1) := by decide +kernel
theorem dX1_find_45 : decode cX1_find 45 = .ok (.invokevirtual 43, 3) := by decide +kernel
theorem dX1_find_48 : decode cX1_find 48 = .ok (.if_icmp .ge 35, 3) := by decide +kernel
theorem dX1_find_51 : decode cX1_find 51 = .ok (.iload 6, 2) := by decide +kernel
theorem dX1_find_53 : decode cX1_find 53 = .ok (.bipush 6, 2) := by decide +kernel
theorem dX1_find_55 : decode cX1_find 55 = .ok (.if_icmp .ge 28, 3) := by decide +kernel
theorem dX1_find_58 : decode cX1_find 58 = .ok (.aload_n 0, 1) := by decide +kernel
theorem dX1_find_59 : decode cX1_find 59 = .ok (.getfield 18, 3) := by decide +kernel
theorem dX1_find_62 : decode cX1_find 62 = .ok (.iload 6, 2) := by decide +kernel
theorem dX1_find_64 : decode cX1_find 64 = .ok (.aload_n 1, 1) := by decide +kernel
theorem dX1_find_65 : decode cX1_find 65 = .ok (.iload 6, 2) := by decide +kernel
theorem dX1_find_67 : decode cX1_find 67 = .ok (.iconst 2, 1) := by decide +kernel
theorem dX1_find_68 : decode cX1_find 68 = .ok (.invokevirtual 46, 3) := by decide +kernel
theorem dX1_find_71 : decode cX1_find 71 = .ok (.iload 5, 2) := by decide +kernel
theorem dX1_find_73 : decode cX1_find 73 = .ok (.invokestatic 49, 3) := by decide +kernel
theorem dX1_find_76 : decode cX1_find 76 = .ok (.iastore, 1) := by decide +kernel
theorem dX1_find_77 : decode cX1_find 77 = .ok (.iinc 6 1, 3) := by decide +kernel
theorem dX1_find_80 : decode cX1_find 80 = .ok (.goto (-38), 3) := by decide +kernel
theorem dX1_find_83 : decode cX1_find 83 = .ok (.aload_n 0, 1) := by decide +kernel
theorem dX1_find_84 : decode cX1_find 84 = .ok (.aload_n 1, 1) := by decide +kernel
theorem dX1_find_85 : decode cX1_find 85 = .ok (.aload_n 2, 1) := by decide +kernel
theorem dX1_find_86 : decode cX1_find 86 = .ok (.aload_n 1, 1) := by decide +kernel
theorem dX1_find_87 : decode cX1_find 87 = .ok (.bipush (-9), 2) := by decide +kernel
theorem dX1_find_89 : decode cX1_find 89 = .ok (.invokevirtual 52, 3) := by decide +kernel
theorem dX1_find_92 : decode cX1_find 92 = .ok (.iconst 0, 1) := by decide +kernel
theorem dX1_find_93 : decode cX1_find 93 = .ok (.aload_n 2, 1) := by decide +kernel
theorem dX1_find_94 : decode cX1_find 94 = .ok (.invokevirtual 25, 3) := by decide +kernel
theorem dX1_find_97 : decode cX1_find 97 = .ok (.invokevirtual 56, 3) := by decide +kernel
theorem dX1_find_100 : decode cX1_find 100 = .ok (.return_, 1) := by decide +kernel
theorem dX1_bestCount_0 : decode cX1_bestCount 0 = .ok (.aload_n 0, 1) := by decide +kernel
theorem dX1_bestCount_1 : decode cX1_bestCount 1 = .ok (.getfield 21, 3) := by decide +kernel
theorem dX1_bestCount_4 : decode cX1_bestCount 4 = .ok (.ireturn, 1) := by decide +kernel
theorem dX1_bestEnd_0 : decode cX1_bestEnd 0 = .ok (.aload_n 0, 1) := by decide +kernel
theorem dX1_bestEnd_1 : decode cX1_bestEnd 1 = .ok (.getfield 31, 3) := by decide +kernel
theorem dX1_bestEnd_4 : decode cX1_bestEnd 4 = .ok (.ireturn, 1) := by decide +kernel
theorem dX1_bestAt_0 : decode cX1_bestAt 0 = .ok (.iload_n 1, 1) := by decide +kernel
theorem dX1_bestAt_1 : decode cX1_bestAt 1 = .ok (.ifCond .lt 26, 3) := by decide +kernel
theorem dX1_bestAt_4 : decode cX1_bestAt 4 = .ok (.iload_n 1, 1) := by decide +kernel
theorem dX1_bestAt_5 : decode cX1_bestAt 5 = .ok (.aload_n 0, 1) := by decide +kernel
theorem dX1_bestAt_6 : decode cX1_bestAt 6 = .ok (.getfield 21, 3) := by decide +kernel
theorem dX1_bestAt_9 : decode cX1_bestAt 9 = .ok (.if_icmp .ge 18, 3) := by decide +kernel
theorem dX1_bestAt_12 : decode cX1_bestAt 12 = .ok (.iload_n 1, 1) := by decide +kernel
theorem dX1_bestAt_13 : decode cX1_bestAt 13 = .ok (.bipush 6, 2) := by decide +kernel
theorem dX1_bestAt_15 : decode cX1_bestAt 15 = .ok (.if_icmp .ge 12, 3) := by decide +kernel
theorem dX1_bestAt_18 : decode cX1_bestAt 18 = .ok (.aload_n 0, 1) := by decide +kernel
theorem dX1_bestAt_19 : decode cX1_bestAt 19 = .ok (.getfield 15, 3) := by decide +kernel
theorem dX1_bestAt_22 : decode cX1_bestAt 22 = .ok (.iload_n 1, 1) := by decide +kernel
theorem dX1_bestAt_23 : decode cX1_bestAt 23 = .ok (.iaload, 1) := by decide +kernel
theorem dX1_bestAt_24 : decode cX1_bestAt 24 = .ok (.goto 5, 3) := by decide +kernel
theorem dX1_bestAt_27 : decode cX1_bestAt 27 = .ok (.bipush (-9), 2) := by decide +kernel
theorem dX1_bestAt_29 : decode cX1_bestAt 29 = .ok (.ireturn, 1) := by decide +kernel
theorem dX1_extend_0 : decode cX1_extend 0 = .ok (.aload_n 0, 1) := by decide +kernel
theorem dX1_extend_1 : decode cX1_extend 1 = .ok (.iload_n 3, 1) := by decide +kernel
theorem dX1_extend_2 : decode cX1_extend 2 = .ok (.iload 4, 2) := by decide +kernel
theorem dX1_extend_4 : decode cX1_extend 4 = .ok (.invokevirtual 60, 3) := by decide +kernel
theorem dX1_extend_7 : decode cX1_extend 7 = .ok (.iload_n 3, 1) := by decide +kernel
theorem dX1_extend_8 : decode cX1_extend 8 = .ok (.bipush 6, 2) := by decide +kernel
theorem dX1_extend_10 : decode cX1_extend 10 = .ok (.if_icmp .lt 4, 3) := by decide +kernel
theorem dX1_extend_13 : decode cX1_extend 13 = .ok (.return_, 1) := by decide +kernel
theorem dX1_extend_14 : decode cX1_extend 14 = .ok (.iconst 0, 1) := by decide +kernel
theorem dX1_extend_15 : decode cX1_extend 15 = .ok (.istore 5, 2) := by decide +kernel
theorem dX1_extend_17 : decode cX1_extend 17 = .ok (.iload 5, 2) := by decide +kernel
theorem dX1_extend_19 : decode cX1_extend 19 = .ok (.bipush 6, 2) := by decide +kernel
theorem dX1_extend_21 : decode cX1_extend 21 = .ok (.if_icmp .ge 91, 3) := by decide +kernel
theorem dX1_extend_24 : decode cX1_extend 24 = .ok (.iload_n 2, 1) := by decide +kernel
theorem dX1_extend_25 : decode cX1_extend 25 = .ok (.iconst 1, 1) := by decide +kernel
theorem dX1_extend_26 : decode cX1_extend 26 = .ok (.iload 5, 2) := by decide +kernel
theorem dX1_extend_28 : decode cX1_extend 28 = .ok (.ishl, 1) := by decide +kernel
theorem dX1_extend_29 : decode cX1_extend 29 = .ok (.iand, 1) := by decide +kernel
theorem dX1_extend_30 : decode cX1_extend 30 = .ok (.ifCond .eq 76, 3) := by decide +kernel
theorem dX1_extend_33 : decode cX1_extend 33 = .ok (.iload 4, 2) := by decide +kernel
theorem dX1_extend_35 : decode cX1_extend 35 = .ok (.aload_n 1, 1) := by decide +kernel
theorem dX1_extend_36 : decode cX1_extend 36 = .ok (.iload 5, 2) := by decide +kernel
theorem dX1_extend_38 : decode cX1_extend 38 = .ok (.iconst 3, 1) := by decide +kernel
theorem dX1_extend_39 : decode cX1_extend 39 = .ok (.invokevirtual 46, 3) := by decide +kernel
theorem dX1_extend_42 : decode cX1_extend 42 = .ok (.invokestatic 64, 3) := by decide +kernel
theorem dX1_extend_45 : decode cX1_extend 45 = .ok (.istore 6, 2) := by decide +kernel
theorem dX1_extend_47 : decode cX1_extend 47 = .ok (.iload 6, 2) := by decide +kernel
theorem dX1_extend_49 : decode cX1_extend 49 = .ok (.aload_n 0, 1) := by decide +kernel
theorem dX1_extend_50 : decode cX1_extend 50 = .ok (.getfield 18, 3) := by decide +kernel
theorem dX1_extend_53 : decode cX1_extend 53 = .ok (.iload 5, 2) := by decide +kernel
theorem dX1_extend_55 : decode cX1_extend 55 = .ok (.iaload, 1) := by decide +kernel
theorem dX1_extend_56 : decode cX1_extend 56 = .ok (.iadd, 1) := by decide +kernel
theorem dX1_extend_57 : decode cX1_extend 57 = .ok (.istore 7, 2) := by decide +kernel
theorem dX1_extend_59 : decode cX1_extend 59 = .ok (.iload 6, 2) := by decide +kernel
theorem dX1_extend_61 : decode cX1_extend 61 = .ok (.aload_n 1, 1) := by decide +kernel
theorem dX1_extend_62 : decode cX1_extend 62 = .ok (.iload 5, 2) := by decide +kernel
theorem dX1_extend_64 : decode cX1_extend 64 = .ok (.iconst 4, 1) := by decide +kernel
theorem dX1_extend_65 : decode cX1_extend 65 = .ok (.invokevirtual 46, 3) := by decide +kernel
theorem dX1_extend_68 : decode cX1_extend 68 = .ok (.if_icmp .gt 38, 3) := by decide +kernel
theorem dX1_extend_71 : decode cX1_extend 71 = .ok (.iload 7, 2) := by decide +kernel
theorem dX1_extend_73 : decode cX1_extend 73 = .ok (.aload_n 0, 1) := by decide +kernel
theorem dX1_extend_74 : decode cX1_extend 74 = .ok (.getfield 34, 3) := by decide +kernel
theorem dX1_extend_77 : decode cX1_extend 77 = .ok (.if_icmp .gt 29, 3) := by decide +kernel
theorem dX1_extend_80 : decode cX1_extend 80 = .ok (.aload_n 0, 1) := by decide +kernel
theorem dX1_extend_81 : decode cX1_extend 81 = .ok (.getfield 9, 3) := by decide +kernel
theorem dX1_extend_84 : decode cX1_extend 84 = .ok (.iload_n 3, 1) := by decide +kernel
theorem dX1_extend_85 : decode cX1_extend 85 = .ok (.iload 5, 2) := by decide +kernel
theorem dX1_extend_87 : decode cX1_extend 87 = .ok (.iastore, 1) := by decide +kernel
theorem dX1_extend_88 : decode cX1_extend 88 = .ok (.aload_n 0, 1) := by decide +kernel
theorem dX1_extend_89 : decode cX1_extend 89 = .ok (.aload_n 1, 1) := by decide +kernel
theorem dX1_extend_90 : decode cX1_extend 90 = .ok (.iload_n 2, 1) := by decide +kernel
theorem dX1_extend_91 : decode cX1_extend 91 = .ok (.iconst 1, 1) := by decide +kernel
theorem dX1_extend_92 : decode cX1_extend 92 = .ok (.iload 5, 2) := by decide +kernel
theorem dX1_extend_94 : decode cX1_extend 94 = .ok (.ishl, 1) := by decide +kernel
theorem dX1_extend_95 : decode cX1_extend 95 = .ok (.iconst (-1), 1) := by decide +kernel
theorem dX1_extend_96 : decode cX1_extend 96 = .ok (.ixor, 1) := by decide +kernel
theorem dX1_extend_97 : decode cX1_extend 97 = .ok (.iand, 1) := by decide +kernel
theorem dX1_extend_98 : decode cX1_extend 98 = .ok (.iload_n 3, 1) := by decide +kernel
theorem dX1_extend_99 : decode cX1_extend 99 = .ok (.iconst 1, 1) := by decide +kernel
theorem dX1_extend_100 : decode cX1_extend 100 = .ok (.iadd, 1) := by decide +kernel
theorem dX1_extend_101 : decode cX1_extend 101 = .ok (.iload 7, 2) := by decide +kernel
theorem dX1_extend_103 : decode cX1_extend 103 = .ok (.invokevirtual 56, 3) := by decide +kernel
theorem dX1_extend_106 : decode cX1_extend 106 = .ok (.iinc 5 1, 3) := by decide +kernel
theorem dX1_extend_109 : decode cX1_extend 109 = .ok (.goto (-92), 3) := by decide +kernel
theorem dX1_extend_112 : decode cX1_extend 112 = .ok (.return_, 1) := by decide +kernel
theorem dX1_weigh_0 : decode cX1_weigh 0 = .ok (.iload_n 1, 1) := by decide +kernel
theorem dX1_weigh_1 : decode cX1_weigh 1 = .ok (.aload_n 0, 1) := by decide +kernel
theorem dX1_weigh_2 : decode cX1_weigh 2 = .ok (.getfield 21, 3) := by decide +kernel
theorem dX1_weigh_5 : decode cX1_weigh 5 = .ok (.if_icmp .gt 19, 3) := by decide +kernel
theorem dX1_weigh_8 : decode cX1_weigh 8 = .ok (.iload_n 1, 1) := by decide +kernel
theorem dX1_weigh_9 : decode cX1_weigh 9 = .ok (.aload_n 0, 1) := by decide +kernel
theorem dX1_weigh_10 : decode cX1_weigh 10 = .ok (.getfield 21, 3) := by decide +kernel
theorem dX1_weigh_13 : decode cX1_weigh 13 = .ok (.if_icmp .ne 35, 3) := by decide +kernel
theorem dX1_weigh_16 : decode cX1_weigh 16 = .ok (.iload_n 2, 1) := by decide +kernel
theorem dX1_weigh_17 : decode cX1_weigh 17 = .ok (.aload_n 0, 1) := by decide +kernel
theorem dX1_weigh_18 : decode cX1_weigh 18 = .ok (.getfield 31, 3) := by decide +kernel
theorem dX1_weigh_21 : decode cX1_weigh 21 = .ok (.if_icmp .ge 27, 3) := by decide +kernel
theorem dX1_weigh_24 : decode cX1_weigh 24 = .ok (.aload_n 0, 1) := by decide +kernel
theorem dX1_weigh_25 : decode cX1_weigh 25 = .ok (.iload_n 1, 1) := by decide +kernel
theorem dX1_weigh_26 : decode cX1_weigh 26 = .ok (.putfield 21, 3) := by decide +kernel
theorem dX1_weigh_29 : decode cX1_weigh 29 = .ok (.aload_n 0, 1) := by decide +kernel
theorem dX1_weigh_30 : decode cX1_weigh 30 = .ok (.iload_n 2, 1) := by decide +kernel
theorem dX1_weigh_31 : decode cX1_weigh 31 = .ok (.putfield 31, 3) := by decide +kernel
theorem dX1_weigh_34 : decode cX1_weigh 34 = .ok (.aload_n 0, 1) := by decide +kernel
theorem dX1_weigh_35 : decode cX1_weigh 35 = .ok (.getfield 9, 3) := by decide +kernel
theorem dX1_weigh_38 : decode cX1_weigh 38 = .ok (.iconst 0, 1) := by decide +kernel
theorem dX1_weigh_39 : decode cX1_weigh 39 = .ok (.aload_n 0, 1) := by decide +kernel
theorem dX1_weigh_40 : decode cX1_weigh 40 = .ok (.getfield 15, 3) := by decide +kernel
theorem dX1_weigh_43 : decode cX1_weigh 43 = .ok (.iconst 0, 1) := by decide +kernel
theorem dX1_weigh_44 : decode cX1_weigh 44 = .ok (.iload_n 1, 1) := by decide +kernel
theorem dX1_weigh_45 : decode cX1_weigh 45 = .ok (.invokestatic 69, 3) := by decide +kernel
theorem dX1_weigh_48 : decode cX1_weigh 48 = .ok (.return_, 1) := by decide +kernel
theorem dX2_init_0 : decode cX2_init 0 = .ok (.aload_n 0, 1) := by decide +kernel
theorem dX2_init_1 : decode cX2_init 1 = .ok (.invokespecial 3, 3) := by decide +kernel
theorem dX2_init_4 : decode cX2_init 4 = .ok (.aload_n 0, 1) := by decide +kernel
theorem dX2_init_5 : decode cX2_init 5 = .ok (.sipush 180, 3) := by decide +kernel
theorem dX2_init_8 : decode cX2_init 8 = .ok (.newarray .int, 2) := by decide +kernel
theorem dX2_init_10 : decode cX2_init 10 = .ok (.putfield 11, 3) := by decide +kernel
theorem dX2_init_13 : decode cX2_init 13 = .ok (.return_, 1) := by decide +kernel
theorem dX2_add_0 : decode cX2_add 0 = .ok (.aload_n 0, 1) := by decide +kernel
theorem dX2_add_1 : decode cX2_add 1 = .ok (.getfield 15, 3) := by decide +kernel
theorem dX2_add_4 : decode cX2_add 4 = .ok (.sipush 180, 3) := by decide +kernel
theorem dX2_add_7 : decode cX2_add 7 = .ok (.if_icmp .lt 5, 3) := by decide +kernel
theorem dX2_add_10 : decode cX2_add 10 = .ok (.iconst 0, 1) := by decide +kernel
theorem dX2_add_11 : decode cX2_add 11 = .ok (.ireturn, 1) := by decide +kernel
theorem dX2_add_12 : decode cX2_add 12 = .ok (.aload_n 0, 1) := by decide +kernel
theorem dX2_add_13 : decode cX2_add 13 = .ok (.getfield 11, 3) := by decide +kernel
theorem dX2_add_16 : decode cX2_add 16 = .ok (.aload_n 0, 1) := by decide +kernel
theorem dX2_add_17 : decode cX2_add 17 = .ok (.getfield 15, 3) := by decide +kernel
theorem dX2_add_20 : decode cX2_add 20 = .ok (.iload_n 1, 1) := by decide +kernel
theorem dX2_add_21 : decode cX2_add 21 = .ok (.iastore, 1) := by decide +kernel
theorem dX2_add_22 : decode cX2_add 22 = .ok (.aload_n 0, 1) := by decide +kernel
theorem dX2_add_23 : decode cX2_add 23 = .ok (.dup, 1) := by decide +kernel
theorem dX2_add_24 : decode cX2_add 24 = .ok (.getfield 15, 3) := by decide +kernel
theorem dX2_add_27 : decode cX2_add 27 = .ok (.iconst 1, 1) := by decide +kernel
theorem dX2_add_28 : decode cX2_add 28 = .ok (.iadd, 1) := by decide +kernel
theorem dX2_add_29 : decode cX2_add 29 = .ok (.putfield 15, 3) := by decide +kernel
theorem dX2_add_32 : decode cX2_add 32 = .ok (.iconst 1, 1) := by decide +kernel
theorem dX2_add_33 : decode cX2_add 33 = .ok (.ireturn, 1) := by decide +kernel
theorem dX2_length_0 : decode cX2_length 0 = .ok (.aload_n 0, 1) := by decide +kernel
theorem dX2_length_1 : decode cX2_length 1 = .ok (.getfield 15, 3) := by decide +kernel
theorem dX2_length_4 : decode cX2_length 4 = .ok (.ireturn, 1) := by decide +kernel
theorem dX2_empty_0 : decode cX2_empty 0 = .ok (.aload_n 0, 1) := by decide +kernel
theorem dX2_empty_1 : decode cX2_empty 1 = .ok (.iconst 0, 1) := by decide +kernel
theorem dX2_empty_2 : decode cX2_empty 2 = .ok (.putfield 15, 3) := by decide +kernel
theorem dX2_empty_5 : decode cX2_empty 5 = .ok (.return_, 1) := by decide +kernel
theorem dX2_read_0 : decode cX2_read 0 = .ok (.aload_n 0, 1) := by decide +kernel
theorem dX2_read_1 : decode cX2_read 1 = .ok (.iconst 0, 1) := by decide +kernel
theorem dX2_read_2 : decode cX2_read 2 = .ok (.putfield 19, 3) := by decide +kernel
theorem dX2_read_5 : decode cX2_read 5 = .ok (.aload_n 1, 1) := by decide +kernel
theorem dX2_read_6 : decode cX2_read 6 = .ok (.invokevirtual 22, 3) := by decide +kernel
theorem dX2_read_9 : decode cX2_read 9 = .ok (.iconst 0, 1) := by decide +kernel
theorem dX2_read_10 : decode cX2_read 10 = .ok (.istore_n 2, 1) := by decide +kernel
theorem dX2_read_11 : decode cX2_read 11 = .ok (.aload_n 0, 1) := by decide +kernel
theorem dX2_read_12 : decode cX2_read 12 = .ok (.invokevirtual 27, 3) := by decide +kernel
theorem dX2_read_15 : decode cX2_read 15 = .ok (.aload_n 0, 1) := by decide +kernel
theorem dX2_read_16 : decode cX2_read 16 = .ok (.getfield 30, 3) := by decide +kernel
theorem dX2_read_19 : decode cX2_read 19 = .ok (.ifCond .eq 32, 3) := by decide +kernel
theorem dX2_read_22 : decode cX2_read 22 = .ok (.iload_n 2, 1) := by decide +kernel
theorem dX2_read_23 : decode cX2_read 23 = .ok (.sipush 180, 3) := by decide +kernel
theorem dX2_read_26 : decode cX2_read 26 = .ok (.if_icmp .gt 25, 3) := by decide +kernel
theorem dX2_read_29 : decode cX2_read 29 = .ok (.aload_n 0, 1) := by decide +kernel
theorem dX2_read_30 : decode cX2_read 30 = .ok (.aload_n 1, 1) := by decide +kernel
theorem dX2_read_31 : decode cX2_read 31 = .ok (.invokevirtual 33, 3) := by decide +kernel
theorem dX2_read_34 : decode cX2_read 34 = .ok (.ifCond .ne 11, 3) := by decide +kernel
theorem dX2_read_37 : decode cX2_read 37 = .ok (.bipush (-10), 2) := by decide +kernel
theorem dX2_read_39 : decode cX2_read 39 = .ok (.aload_n 0, 1) := by decide +kernel
theorem dX2_read_40 : decode cX2_read 40 = .ok (.getfield 37, 3) := by decide +kernel
theorem dX2_read_43 : decode cX2_read 43 = .ok (.isub, 1) := by decide +kernel
theorem dX2_read_44 : decode cX2_read 44 = .ok (.ireturn, 1) := by decide +kernel
theorem dX2_read_45 : decode cX2_read 45 = .ok (.iinc 2 1, 3) := by decide +kernel
theorem dX2_read_48 : decode cX2_read 48 = .ok (.goto (-33), 3) := by decide +kernel
theorem dX2_read_51 : decode cX2_read 51 = .ok (.iload_n 2, 1) := by decide +kernel
theorem dX2_read_52 : decode cX2_read 52 = .ok (.ireturn, 1) := by decide +kernel
theorem dX2_readItem_0 : decode cX2_readItem 0 = .ok (.aload_n 0, 1) := by decide +kernel
theorem dX2_readItem_1 : decode cX2_readItem 1 = .ok (.getfield 30, 3) := by decide +kernel
theorem dX2_readItem_4 : decode cX2_readItem 4 = .ok (.iconst 1, 1) := by decide +kernel
theorem dX2_readItem_5 : decode cX2_readItem 5 = .ok (.if_icmp .eq 5, 3) := by decide +kernel
theorem dX2_readItem_8 : decode cX2_readItem 8 = .ok (.iconst 0, 1) := by decide +kernel
theorem dX2_readItem_9 : decode cX2_readItem 9 = .ok (.ireturn, 1) := by decide +kernel
theorem dX2_readItem_10 : decode cX2_readItem 10 = .ok (.aload_n 0, 1) := by decide +kernel
theorem dX2_readItem_11 : decode cX2_readItem 11 = .ok (.getfield 40, 3) := by decide +kernel
theorem dX2_readItem_14 : decode cX2_readItem 14 = .ok (.bipush 111, 2) := by decide +kernel
theorem dX2_readItem_16 : decode cX2_readItem 16 = .ok (.if_icmp .ne 27, 3) := by decide +kernel
theorem dX2_readItem_19 : decode cX2_readItem 19 = .ok (.aload_n 1, 1) := by decide +kernel
theorem dX2_readItem_20 : decode cX2_readItem 20 = .ok (.invokevirtual 43, 3) := by decide +kernel
theorem dX2_readItem_23 : decode cX2_readItem 23 = .ok (.ifCond .eq 15, 3) := by decide +kernel
theorem dX2_readItem_26 : decode cX2_readItem 26 = .ok (.aload_n 0, 1) := by decide +kernel
theorem dX2_readItem_27 : decode cX2_readItem 27 = .ok (.aload_n 1, 1) := by decide +kernel
theorem dX2_readItem_28 : decode cX2_readItem 28 = .ok (.invokevirtual 47, 3) := by decide +kernel
theorem dX2_readItem_31 : decode cX2_readItem 31 = .ok (.ifCond .eq 7, 3) := by decide +kernel
theorem dX2_readItem_34 : decode cX2_readItem 34 = .ok (.iconst 1, 1) := by decide +kernel
theorem dX2_readItem_35 : decode cX2_readItem 35 = .ok (.goto 4, 3) := by decide +kernel
theorem dX2_readItem_38 : decode cX2_readItem 38 = .ok (.iconst 0, 1) := by decide +kernel
theorem dX2_readItem_39 : decode cX2_readItem 39 = .ok (.istore_n 2, 1) := by decide +kernel
theorem dX2_readItem_40 : decode cX2_readItem 40 = .ok (.goto 38, 3) := by decide +kernel
theorem dX2_readItem_43 : decode cX2_readItem 43 = .ok (.aload_n 0, 1) := by decide +kernel
theorem dX2_readItem_44 : decode cX2_readItem 44 = .ok (.getfield 40, 3) := by decide +kernel
theorem dX2_readItem_47 : decode cX2_readItem 47 = .ok (.bipush 100, 2) := by decide +kernel
theorem dX2_readItem_49 : decode cX2_readItem 49 = .ok (.if_icmp .ne 27, 3) := by decide +kernel
theorem dX2_readItem_52 : decode cX2_readItem 52 = .ok (.aload_n 1, 1) := by decide +kernel
theorem dX2_readItem_53 : decode cX2_readItem 53 = .ok (.invokevirtual 50, 3) := by decide +kernel
theorem dX2_readItem_56 : decode cX2_readItem 56 = .ok (.ifCond .eq 15, 3) := by decide +kernel
theorem dX2_readItem_59 : decode cX2_readItem 59 = .ok (.aload_n 0, 1) := by decide +kernel
theorem dX2_readItem_60 : decode cX2_readItem 60 = .ok (.aload_n 1, 1) := by decide +kernel
theorem dX2_readItem_61 : decode cX2_readItem 61 = .ok (.invokevirtual 53, 3) := by decide +kernel
theorem dX2_readItem_64 : decode cX2_readItem 64 = .ok (.ifCond .eq 7, 3) := by decide +kernel
theorem dX2_readItem_67 : decode cX2_readItem 67 = .ok (.iconst 1, 1) := by decide +kernel
theorem dX2_readItem_68 : decode cX2_readItem 68 = .ok (.goto 4, 3) := by decide +kernel
theorem dX2_readItem_71 : decode cX2_readItem 71 = .ok (.iconst 0, 1) := by decide +kernel
theorem dX2_readItem_72 : decode cX2_readItem 72 = .ok (.istore_n 2, 1) := by decide +kernel
theorem dX2_readItem_73 : decode cX2_readItem 73 = .ok (.goto 5, 3) := by decide +kernel
theorem dX2_readItem_76 : decode cX2_readItem 76 = .ok (.iconst 0, 1) := by decide +kernel
theorem dX2_readItem_77 : decode cX2_readItem 77 = .ok (.istore_n 2, 1) := by decide +kernel
theorem dX2_readItem_78 : decode cX2_readItem 78 = .ok (.iload_n 2, 1) := by decide +kernel
theorem dX2_readItem_79 : decode cX2_readItem 79 = .ok (.ifCond .eq 11, 3) := by decide +kernel
theorem dX2_readItem_82 : decode cX2_readItem 82 = .ok (.aload_n 0, 1) := by decide +kernel
theorem dX2_readItem_83 : decode cX2_readItem 83 = .ok (.getfield 30, 3) := by decide +kernel
theorem dX2_readItem_86 : decode cX2_readItem 86 = .ok (.iconst 3, 1) := by decide +kernel
theorem dX2_readItem_87 : decode cX2_readItem 87 = .ok (.if_icmp .eq 5, 3) := by decide +kernel
theorem dX2_readItem_90 : decode cX2_readItem 90 = .ok (.iconst 0, 1) := by decide +kernel
theorem dX2_readItem_91 : decode cX2_readItem 91 = .ok (.ireturn, 1) := by decide +kernel
theorem dX2_readItem_92 : decode cX2_readItem 92 = .ok (.aload_n 0, 1) := by decide +kernel
theorem dX2_readItem_93 : decode cX2_readItem 93 = .ok (.invokevirtual 27, 3) := by decide +kernel
theorem dX2_readItem_96 : decode cX2_readItem 96 = .ok (.iconst 1, 1) := by decide +kernel
theorem dX2_readItem_97 : decode cX2_readItem 97 = .ok (.ireturn, 1) := by decide +kernel
theorem dX2_readOvenNumbers_0 : decode cX2_readOvenNumbers 0 = .ok (.aload_n 0, 1) := by decide +kernel
theorem dX2_readOvenNumbers_1 : decode cX2_readOvenNumbers 1 = .ok (.invokevirtual 27, 3) := by decide +kernel
theorem dX2_readOvenNumbers_4 : decode cX2_readOvenNumbers 4 = .ok (.iconst 0, 1) := by decide +kernel
theorem dX2_readOvenNumbers_5 : decode cX2_readOvenNumbers 5 = .ok (.istore_n 2, 1) := by decide +kernel
theorem dX2_readOvenNumbers_6 : decode cX2_readOvenNumbers 6 = .ok (.iload_n 2, 1) := by decide +kernel
theorem dX2_readOvenNumbers_7 : decode cX2_readOvenNumbers 7 = .ok (.iconst 2, 1) := by decide +kernel
theorem dX2_readOvenNumbers_8 : decode cX2_readOvenNumbers 8 = .ok (.if_icmp .ge 37, 3) := by decide +kernel
theorem dX2_readOvenNumbers_11 : decode cX2_readOvenNumbers 11 = .ok (.aload_n 0, 1) := by decide +kernel
theorem dX2_readOvenNumbers_12 : decode cX2_readOvenNumbers 12 = .ok (.iconst 0, 1) := by decide +kernel
theorem dX2_readOvenNumbers_13 : decode cX2_readOvenNumbers 13 = .ok (.getstatic 56, 3) := by decide +kernel
theorem dX2_readOvenNumbers_16 : decode cX2_readOvenNumbers 16 = .ok (.iload_n 2, 1) := by decide +kernel
theorem dX2_readOvenNumbers_17 : decode cX2_readOvenNumbers 17 = .ok (.iaload, 1) := by decide +kernel
theorem dX2_readOvenNumbers_18 : decode cX2_readOvenNumbers 18 = .ok (.invokevirtual 59, 3) := by decide +kernel
theorem dX2_readOvenNumbers_21 : decode cX2_readOvenNumbers 21 = .ok (.ifCond .ne 5, 3) := by decide +kernel
theorem dX2_readOvenNumbers_24 : decode cX2_readOvenNumbers 24 = .ok (.iconst 0, 1) := by decide +kernel
theorem dX2_readOvenNumbers_25 : decode cX2_readOvenNumbers 25 = .ok (.ireturn, 1) := by decide +kernel
theorem dX2_readOvenNumbers_26 : decode cX2_readOvenNumbers 26 = .ok (.aload_n 1, 1) := by decide +kernel
theorem dX2_readOvenNumbers_27 : decode cX2_readOvenNumbers 27 = .ok (.iload_n 2, 1) := by decide +kernel
theorem dX2_readOvenNumbers_28 : decode cX2_readOvenNumbers 28 = .ok (.aload_n 0, 1) := by decide +kernel
theorem dX2_readOvenNumbers_29 : decode cX2_readOvenNumbers 29 = .ok (.getfield 40, 3) := by decide +kernel
theorem dX2_readOvenNumbers_32 : decode cX2_readOvenNumbers 32 = .ok (.invokevirtual 63, 3) := by decide +kernel
theorem dX2_readOvenNumbers_35 : decode cX2_readOvenNumbers 35 = .ok (.aload_n 0, 1) := by decide +kernel
theorem dX2_readOvenNumbers_36 : decode cX2_readOvenNumbers 36 = .ok (.invokevirtual 27, 3) := by decide +kernel
theorem dX2_readOvenNumbers_39 : decode cX2_readOvenNumbers 39 = .ok (.iinc 2 1, 3) := by decide +kernel
theorem dX2_readOvenNumbers_42 : decode cX2_readOvenNumbers 42 = .ok (.goto (-36), 3) := by decide +kernel
theorem dX2_readOvenNumbers_45 : decode cX2_readOvenNumbers 45 = .ok (.iconst 1, 1) := by decide +kernel
theorem dX2_readOvenNumbers_46 : decode cX2_readOvenNumbers 46 = .ok (.ireturn, 1) := by decide +kernel
theorem dX2_readDoughNumbers_0 : decode cX2_readDoughNumbers 0 = .ok (.aload_n 0, 1) := by decide +kernel
theorem dX2_readDoughNumbers_1 : decode cX2_readDoughNumbers 1 = .ok (.invokevirtual 27, 3) := by decide +kernel
theorem dX2_readDoughNumbers_4 : decode cX2_readDoughNumbers 4 = .ok (.iconst 0, 1) := by decide +kernel
theorem dX2_readDoughNumbers_5 : decode cX2_readDoughNumbers 5 = .ok (.istore_n 2, 1) := by decide +kernel
theorem dX2_readDoughNumbers_6 : decode cX2_readDoughNumbers 6 = .ok (.iload_n 2, 1) := by decide +kernel
theorem dX2_readDoughNumbers_7 : decode cX2_readDoughNumbers 7 = .ok (.iconst 5, 1) := by decide +kernel
theorem dX2_readDoughNumbers_8 : decode cX2_readDoughNumbers 8 = .ok (.if_icmp .ge 62, 3) := by decide +kernel
theorem dX2_readDoughNumbers_11 : decode cX2_readDoughNumbers 11 = .ok (.iload_n 2, 1) := by decide +kernel
theorem dX2_readDoughNumbers_12 : decode cX2_readDoughNumbers 12 = .ok (.iconst 4, 1) := by decide +kernel
theorem dX2_readDoughNumbers_13 : decode cX2_readDoughNumbers 13 = .ok (.if_icmp .ne 17, 3) := by decide +kernel
theorem dX2_readDoughNumbers_16 : decode cX2_readDoughNumbers 16 = .ok (.aload_n 1, 1) := by decide +kernel
theorem dX2_readDoughNumbers_17 : decode cX2_readDoughNumbers 17 = .ok (.aload_n 1, 1) := by decide +kernel
theorem dX2_readDoughNumbers_18 : decode cX2_readDoughNumbers 18 = .ok (.invokevirtual 67, 3) := by decide +kernel
theorem dX2_readDoughNumbers_21 : decode cX2_readDoughNumbers 21 = .ok (.iconst 1, 1) := by decide +kernel
theorem dX2_readDoughNumbers_22 : decode cX2_readDoughNumbers 22 = .ok (.isub, 1) := by decide +kernel
theorem dX2_readDoughNumbers_23 : decode cX2_readDoughNumbers 23 = .ok (.iconst 3, 1) := by decide +kernel
theorem dX2_readDoughNumbers_24 : decode cX2_readDoughNumbers 24 = .ok (.invokevirtual 71, 3) := by decide +kernel
theorem dX2_readDoughNumbers_27 : decode cX2_readDoughNumbers 27 = .ok (.goto 8, 3) := by decide +kernel
theorem dX2_readDoughNumbers_30 : decode cX2_readDoughNumbers 30 = .ok (.getstatic 75, 3) := by decide +kernel
theorem dX2_readDoughNumbers_33 : decode cX2_readDoughNumbers 33 = .ok (.iload_n 2, 1) := by decide +kernel
theorem dX2_readDoughNumbers_34 : decode cX2_readDoughNumbers 34 = .ok (.iaload, 1) := by decide +kernel
theorem dX2_readDoughNumbers_35 : decode cX2_readDoughNumbers 35 = .ok (.istore_n 3, 1) := by decide +kernel
theorem dX2_readDoughNumbers_36 : decode cX2_readDoughNumbers 36 = .ok (.aload_n 0, 1) := by decide +kernel
theorem dX2_readDoughNumbers_37 : decode cX2_readDoughNumbers 37 = .ok (.iload_n 3, 1) := by decide +kernel
theorem dX2_readDoughNumbers_38 : decode cX2_readDoughNumbers 38 = .ok (.getstatic 78, 3) := by decide +kernel
theorem dX2_readDoughNumbers_41 : decode cX2_readDoughNumbers 41 = .ok (.iload_n 2, 1) := by decide +kernel
theorem dX2_readDoughNumbers_42 : decode cX2_readDoughNumbers 42 = .ok (.iaload, 1) := by decide +kernel
theorem dX2_readDoughNumbers_43 : decode cX2_readDoughNumbers 43 = .ok (.invokevirtual 59, 3) := by decide +kernel
theorem dX2_readDoughNumbers_46 : decode cX2_readDoughNumbers 46 = .ok (.ifCond .ne 5, 3) := by decide +kernel
theorem dX2_readDoughNumbers_49 : decode cX2_readDoughNumbers 49 = .ok (.iconst 0, 1) := by decide +kernel
theorem dX2_readDoughNumbers_50 : decode cX2_readDoughNumbers 50 = .ok (.ireturn, 1) := by decide +kernel
theorem dX2_readDoughNumbers_51 : decode cX2_readDoughNumbers 51 = .ok (.aload_n 1, 1) := by decide +kernel
theorem dX2_readDoughNumbers_52 : decode cX2_readDoughNumbers 52 = .ok (.iload_n 2, 1) := by decide +kernel
theorem dX2_readDoughNumbers_53 : decode cX2_readDoughNumbers 53 = .ok (.aload_n 0, 1) := by decide +kernel
theorem dX2_readDoughNumbers_54 : decode cX2_readDoughNumbers 54 = .ok (.getfield 40, 3) := by decide +kernel
theorem dX2_readDoughNumbers_57 : decode cX2_readDoughNumbers 57 = .ok (.invokevirtual 81, 3) := by decide +kernel
theorem dX2_readDoughNumbers_60 : decode cX2_readDoughNumbers 60 = .ok (.aload_n 0, 1) := by decide +kernel
theorem dX2_readDoughNumbers_61 : decode cX2_readDoughNumbers 61 = .ok (.invokevirtual 27, 3) := by decide +kernel
theorem dX2_readDoughNumbers_64 : decode cX2_readDoughNumbers 64 = .ok (.iinc 2 1, 3) := by decide +kernel
theorem dX2_readDoughNumbers_67 : decode cX2_readDoughNumbers 67 = .ok (.goto (-61), 3) := by decide +kernel
theorem dX2_readDoughNumbers_70 : decode cX2_readDoughNumbers 70 = .ok (.iconst 1, 1) := by decide +kernel
theorem dX2_readDoughNumbers_71 : decode cX2_readDoughNumbers 71 = .ok (.ireturn, 1) := by decide +kernel
theorem dX2_isNumberWithin_0 : decode cX2_isNumberWithin 0 = .ok (.aload_n 0, 1) := by decide +kernel
theorem dX2_isNumberWithin_1 : decode cX2_isNumberWithin 1 = .ok (.getfield 30, 3) := by decide +kernel
theorem dX2_isNumberWithin_4 : decode cX2_isNumberWithin 4 = .ok (.iconst 2, 1) := by decide +kernel
theorem dX2_isNumberWithin_5 : decode cX2_isNumberWithin 5 = .ok (.if_icmp .ne 23, 3) := by decide +kernel
theorem dX2_isNumberWithin_8 : decode cX2_isNumberWithin 8 = .ok (.aload_n 0, 1) := by decide +kernel
theorem dX2_isNumberWithin_9 : decode cX2_isNumberWithin 9 = .ok (.getfield 40, 3) := by decide +kernel
theorem dX2_isNumberWithin_12 : decode cX2_isNumberWithin 12 = .ok (.iload_n 1, 1) := by decide +kernel
theorem dX2_isNumberWithin_13 : decode cX2_isNumberWithin 13 = .ok (.if_icmp .lt 15, 3) := by decide +kernel
theorem dX2_isNumberWithin_16 : decode cX2_isNumberWithin 16 = .ok (.aload_n 0, 1) := by decide +kernel
theorem dX2_isNumberWithin_17 : decode cX2_isNumberWithin 17 = .ok (.getfield 40, 3) := by decide +kernel
theorem dX2_isNumberWithin_20 : decode cX2_isNumberWithin 20 = .ok (.iload_n 2, 1) := by decide +kernel
theorem dX2_isNumberWithin_21 : decode cX2_isNumberWithin 21 = .ok (.if_icmp .gt 7, 3) := by decide +kernel
theorem dX2_isNumberWithin_24 : decode cX2_isNumberWithin 24 = .ok (.iconst 1, 1) := by decide +kernel
theorem dX2_isNumberWithin_25 : decode cX2_isNumberWithin 25 = .ok (.goto 4, 3) := by decide +kernel
theorem dX2_isNumberWithin_28 : decode cX2_isNumberWithin 28 = .ok (.iconst 0, 1) := by decide +kernel
theorem dX2_isNumberWithin_29 : decode cX2_isNumberWithin 29 = .ok (.ireturn, 1) := by decide +kernel
theorem dX2_nextToken_0 : decode cX2_nextToken 0 = .ok (.aload_n 0, 1) := by decide +kernel
theorem dX2_nextToken_1 : decode cX2_nextToken 1 = .ok (.getfield 19, 3) := by decide +kernel
theorem dX2_nextToken_4 : decode cX2_nextToken 4 = .ok (.aload_n 0, 1) := by decide +kernel
theorem dX2_nextToken_5 : decode cX2_nextToken 5 = .ok (.getfield 15, 3) := by decide +kernel
theorem dX2_nextToken_8 : decode cX2_nextToken 8 = .ok (.if_icmp .ge 30, 3) := by decide +kernel
theorem dX2_nextToken_11 : decode cX2_nextToken 11 = .ok (.aload_n 0, 1) := by decide +kernel
theorem dX2_nextToken_12 : decode cX2_nextToken 12 = .ok (.getfield 11, 3) := by decide +kernel
theorem dX2_nextToken_15 : decode cX2_nextToken 15 = .ok (.aload_n 0, 1) := by decide +kernel
theorem dX2_nextToken_16 : decode cX2_nextToken 16 = .ok (.getfield 19, 3) := by decide +kernel
theorem dX2_nextToken_19 : decode cX2_nextToken 19 = .ok (.iaload, 1) := by decide +kernel
theorem dX2_nextToken_20 : decode cX2_nextToken 20 = .ok (.bipush 32, 2) := by decide +kernel
theorem dX2_nextToken_22 : decode cX2_nextToken 22 = .ok (.if_icmp .ne 16, 3) := by decide +kernel
theorem dX2_nextToken_25 : decode cX2_nextToken 25 = .ok (.aload_n 0, 1) := by decide +kernel
theorem dX2_nextToken_26 : decode cX2_nextToken 26 = .ok (.dup, 1) := by decide +kernel
theorem dX2_nextToken_27 : decode cX2_nextToken 27 = .ok (.getfield 19, 3) := by decide +kernel
theorem dX2_nextToken_30 : decode cX2_nextToken 30 = .ok (.iconst 1, 1) := by decide +kernel
theorem dX2_nextToken_31 : decode cX2_nextToken 31 = .ok (.iadd, 1) := by decide +kernel
theorem dX2_nextToken_32 : decode cX2_nextToken 32 = .ok (.putfield 19, 3) := by decide +kernel
theorem dX2_nextToken_35 : decode cX2_nextToken 35 = .ok (.goto (-35), 3) := by decide +kernel
theorem dX2_nextToken_38 : decode cX2_nextToken 38 = .ok (.aload_n 0, 1) := by decide +kernel
theorem dX2_nextToken_39 : decode cX2_nextToken 39 = .ok (.aload_n 0, 1) := by decide +kernel
theorem dX2_nextToken_40 : decode cX2_nextToken 40 = .ok (.getfield 19, 3) := by decide +kernel
theorem dX2_nextToken_43 : decode cX2_nextToken 43 = .ok (.putfield 37, 3) := by decide +kernel
theorem dX2_nextToken_46 : decode cX2_nextToken 46 = .ok (.aload_n 0, 1) := by decide +kernel
theorem dX2_nextToken_47 : decode cX2_nextToken 47 = .ok (.iconst 0, 1) := by decide +kernel
theorem dX2_nextToken_48 : decode cX2_nextToken 48 = .ok (.putfield 40, 3) := by decide +kernel
theorem dX2_nextToken_51 : decode cX2_nextToken 51 = .ok (.aload_n 0, 1) := by decide +kernel
theorem dX2_nextToken_52 : decode cX2_nextToken 52 = .ok (.getfield 19, 3) := by decide +kernel
theorem dX2_nextToken_55 : decode cX2_nextToken 55 = .ok (.aload_n 0, 1) := by decide +kernel
theorem dX2_nextToken_56 : decode cX2_nextToken 56 = .ok (.getfield 15, 3) := by decide +kernel
theorem dX2_nextToken_59 : decode cX2_nextToken 59 = .ok (.if_icmp .lt 11, 3) := by decide +kernel
theorem dX2_nextToken_62 : decode cX2_nextToken 62 = .ok (.aload_n 0, 1) := by decide +kernel
theorem dX2_nextToken_63 : decode cX2_nextToken 63 = .ok (.iconst 0, 1) := by decide +kernel
theorem dX2_nextToken_64 : decode cX2_nextToken 64 = .ok (.putfield 30, 3) := by decide +kernel
theorem dX2_nextToken_67 : decode cX2_nextToken 67 = .ok (.goto 80, 3) := by decide +kernel
theorem dX2_nextToken_70 : decode cX2_nextToken 70 = .ok (.aload_n 0, 1) := by decide +kernel
theorem dX2_nextToken_71 : decode cX2_nextToken 71 = .ok (.getfield 11, 3) := by decide +kernel
theorem dX2_nextToken_74 : decode cX2_nextToken 74 = .ok (.aload_n 0, 1) := by decide +kernel
theorem dX2_nextToken_75 : decode cX2_nextToken 75 = .ok (.getfield 19, 3) := by decide +kernel
theorem dX2_nextToken_78 : decode cX2_nextToken 78 = .ok (.iaload, 1) := by decide +kernel
theorem dX2_nextToken_79 : decode cX2_nextToken 79 = .ok (.invokestatic 84, 3) := by decide +kernel
theorem dX2_nextToken_82 : decode cX2_nextToken 82 = .ok (.ifCond .eq 10, 3) := by decide +kernel
theorem dX2_nextToken_85 : decode cX2_nextToken 85 = .ok (.aload_n 0, 1) := by decide +kernel
theorem dX2_nextToken_86 : decode cX2_nextToken 86 = .ok (.invokevirtual 88, 3) := by decide +kernel
theorem dX2_nextToken_89 : decode cX2_nextToken 89 = .ok (.goto 58, 3) := by decide +kernel
theorem dX2_nextToken_92 : decode cX2_nextToken 92 = .ok (.aload_n 0, 1) := by decide +kernel
theorem dX2_nextToken_93 : decode cX2_nextToken 93 = .ok (.getfield 11, 3) := by decide +kernel
theorem dX2_nextToken_96 : decode cX2_nextToken 96 = .ok (.aload_n 0, 1) := by decide +kernel
theorem dX2_nextToken_97 : decode cX2_nextToken 97 = .ok (.getfield 19, 3) := by decide +kernel
theorem dX2_nextToken_100 : decode cX2_nextToken 100 = .ok (.iaload, 1) := by decide +kernel
theorem dX2_nextToken_101 : decode cX2_nextToken 101 = .ok (.invokestatic 91, 3) := by decide +kernel
theorem dX2_nextToken_104 : decode cX2_nextToken 104 = .ok (.ifCond .eq 10, 3) := by decide +kernel
theorem dX2_nextToken_107 : decode cX2_nextToken 107 = .ok (.aload_n 0, 1) := by decide +kernel
theorem dX2_nextToken_108 : decode cX2_nextToken 108 = .ok (.invokevirtual 94, 3) := by decide +kernel
theorem dX2_nextToken_111 : decode cX2_nextToken 111 = .ok (.goto 36, 3) := by decide +kernel
theorem dX2_nextToken_114 : decode cX2_nextToken 114 = .ok (.aload_n 0, 1) := by decide +kernel
theorem dX2_nextToken_115 : decode cX2_nextToken 115 = .ok (.aload_n 0, 1) := by decide +kernel
theorem dX2_nextToken_116 : decode cX2_nextToken 116 = .ok (.getfield 11, 3) := by decide +kernel
theorem dX2_nextToken_119 : decode cX2_nextToken 119 = .ok (.aload_n 0, 1) := by decide +kernel
theorem dX2_nextToken_120 : decode cX2_nextToken 120 = .ok (.getfield 19, 3) := by decide +kernel
theorem dX2_nextToken_123 : decode cX2_nextToken 123 = .ok (.iaload, 1) := by decide +kernel
theorem dX2_nextToken_124 : decode cX2_nextToken 124 = .ok (.bipush 59, 2) := by decide +kernel
theorem dX2_nextToken_126 : decode cX2_nextToken 126 = .ok (.if_icmp .ne 7, 3) := by decide +kernel
theorem dX2_nextToken_129 : decode cX2_nextToken 129 = .ok (.iconst 3, 1) := by decide +kernel
theorem dX2_nextToken_130 : decode cX2_nextToken 130 = .ok (.goto 4, 3) := by decide +kernel
theorem dX2_nextToken_133 : decode cX2_nextToken 133 = .ok (.iconst 4, 1) := by decide +kernel
theorem dX2_nextToken_134 : decode cX2_nextToken 134 = .ok (.putfield 30, 3) := by decide +kernel
theorem dX2_nextToken_137 : decode cX2_nextToken 137 = .ok (.aload_n 0, 1) := by decide +kernel
theorem dX2_nextToken_138 : decode cX2_nextToken 138 = .ok (.dup, 1) := by decide +kernel
theorem dX2_nextToken_139 : decode cX2_nextToken 139 = .ok (.getfield 19, 3) := by decide +kernel
theorem dX2_nextToken_142 : decode cX2_nextToken 142 = .ok (.iconst 1, 1) := by decide +kernel
theorem dX2_nextToken_143 : decode cX2_nextToken 143 = .ok (.iadd, 1) := by decide +kernel
theorem dX2_nextToken_144 : decode cX2_nextToken 144 = .ok (.putfield 19, 3) := by decide +kernel
theorem dX2_nextToken_147 : decode cX2_nextToken 147 = .ok (.return_, 1) := by decide +kernel
theorem dX2_takeLetters_0 : decode cX2_takeLetters 0 = .ok (.aload_n 0, 1) := by decide +kernel
theorem dX2_takeLetters_1 : decode cX2_takeLetters 1 = .ok (.iconst 1, 1) := by decide +kernel
theorem dX2_takeLetters_2 : decode cX2_takeLetters 2 = .ok (.putfield 30, 3) := by decide +kernel
theorem dX2_takeLetters_5 : decode cX2_takeLetters 5 = .ok (.aload_n 0, 1) := by decide +kernel
theorem dX2_takeLetters_6 : decode cX2_takeLetters 6 = .ok (.getfield 19, 3) := by decide +kernel
theorem dX2_takeLetters_9 : decode cX2_takeLetters 9 = .ok (.aload_n 0, 1) := by decide +kernel
theorem dX2_takeLetters_10 : decode cX2_takeLetters 10 = .ok (.getfield 15, 3) := by decide +kernel
theorem dX2_takeLetters_13 : decode cX2_takeLetters 13 = .ok (.if_icmp .ge 59, 3) := by decide +kernel
theorem dX2_takeLetters_16 : decode cX2_takeLetters 16 = .ok (.aload_n 0, 1) := by decide +kernel
theorem dX2_takeLetters_17 : decode cX2_takeLetters 17 = .ok (.getfield 11, 3) := by decide +kernel
theorem dX2_takeLetters_20 : decode cX2_takeLetters 20 = .ok (.aload_n 0, 1) := by decide +kernel
theorem dX2_takeLetters_21 : decode cX2_takeLetters 21 = .ok (.getfield 19, 3) := by decide +kernel
theorem dX2_takeLetters_24 : decode cX2_takeLetters 24 = .ok (.iaload, 1) := by decide +kernel
theorem dX2_takeLetters_25 : decode cX2_takeLetters 25 = .ok (.invokestatic 84, 3) := by decide +kernel
theorem dX2_takeLetters_28 : decode cX2_takeLetters 28 = .ok (.ifCond .eq 44, 3) := by decide +kernel
theorem dX2_takeLetters_31 : decode cX2_takeLetters 31 = .ok (.aload_n 0, 1) := by decide +kernel
theorem dX2_takeLetters_32 : decode cX2_takeLetters 32 = .ok (.aload_n 0, 1) := by decide +kernel
theorem dX2_takeLetters_33 : decode cX2_takeLetters 33 = .ok (.getfield 19, 3) := by decide +kernel
theorem dX2_takeLetters_36 : decode cX2_takeLetters 36 = .ok (.aload_n 0, 1) := by decide +kernel
theorem dX2_takeLetters_37 : decode cX2_takeLetters 37 = .ok (.getfield 37, 3) := by decide +kernel
theorem dX2_takeLetters_40 : decode cX2_takeLetters 40 = .ok (.if_icmp .ne 15, 3) := by decide +kernel
theorem dX2_takeLetters_43 : decode cX2_takeLetters 43 = .ok (.aload_n 0, 1) := by decide +kernel
theorem dX2_takeLetters_44 : decode cX2_takeLetters 44 = .ok (.getfield 11, 3) := by decide +kernel
theorem dX2_takeLetters_47 : decode cX2_takeLetters 47 = .ok (.aload_n 0, 1) := by decide +kernel
theorem dX2_takeLetters_48 : decode cX2_takeLetters 48 = .ok (.getfield 19, 3) := by decide +kernel
theorem dX2_takeLetters_51 : decode cX2_takeLetters 51 = .ok (.iaload, 1) := by decide +kernel
theorem dX2_takeLetters_52 : decode cX2_takeLetters 52 = .ok (.goto 4, 3) := by decide +kernel
theorem dX2_takeLetters_55 : decode cX2_takeLetters 55 = .ok (.iconst 0, 1) := by decide +kernel
theorem dX2_takeLetters_56 : decode cX2_takeLetters 56 = .ok (.putfield 40, 3) := by decide +kernel
theorem dX2_takeLetters_59 : decode cX2_takeLetters 59 = .ok (.aload_n 0, 1) := by decide +kernel
theorem dX2_takeLetters_60 : decode cX2_takeLetters 60 = .ok (.dup, 1) := by decide +kernel
theorem dX2_takeLetters_61 : decode cX2_takeLetters 61 = .ok (.getfield 19, 3) := by decide +kernel
theorem dX2_takeLetters_64 : decode cX2_takeLetters 64 = .ok (.iconst 1, 1) := by decide +kernel
theorem dX2_takeLetters_65 : decode cX2_takeLetters 65 = .ok (.iadd, 1) := by decide +kernel
theorem dX2_takeLetters_66 : decode cX2_takeLetters 66 = .ok (.putfield 19, 3) := by decide +kernel
theorem dX2_takeLetters_69 : decode cX2_takeLetters 69 = .ok (.goto (-64), 3) := by decide +kernel
theorem dX2_takeLetters_72 : decode cX2_takeLetters 72 = .ok (.return_, 1) := by decide +kernel
theorem dX2_takeNumber_0 : decode cX2_takeNumber 0 = .ok (.aload_n 0, 1) := by decide +kernel
theorem dX2_takeNumber_1 : decode cX2_takeNumber 1 = .ok (.getfield 19, 3) := by decide +kernel
theorem dX2_takeNumber_4 : decode cX2_takeNumber 4 = .ok (.aload_n 0, 1) := by decide +kernel
theorem dX2_takeNumber_5 : decode cX2_takeNumber 5 = .ok (.getfield 15, 3) := by decide +kernel
theorem dX2_takeNumber_8 : decode cX2_takeNumber 8 = .ok (.if_icmp .ge 60, 3) := by decide +kernel
theorem dX2_takeNumber_11 : decode cX2_takeNumber 11 = .ok (.aload_n 0, 1) := by decide +kernel
theorem dX2_takeNumber_12 : decode cX2_takeNumber 12 = .ok (.getfield 11, 3) := by decide +kernel
theorem dX2_takeNumber_15 : decode cX2_takeNumber 15 = .ok (.aload_n 0, 1) := by decide +kernel
theorem dX2_takeNumber_16 : decode cX2_takeNumber 16 = .ok (.getfield 19, 3) := by decide +kernel
theorem dX2_takeNumber_19 : decode cX2_takeNumber 19 = .ok (.iaload, 1) := by decide +kernel
theorem dX2_takeNumber_20 : decode cX2_takeNumber 20 = .ok (.invokestatic 91, 3) := by decide +kernel
theorem dX2_takeNumber_23 : decode cX2_takeNumber 23 = .ok (.ifCond .eq 45, 3) := by decide +kernel
theorem dX2_takeNumber_26 : decode cX2_takeNumber 26 = .ok (.aload_n 0, 1) := by decide +kernel
theorem dX2_takeNumber_27 : decode cX2_takeNumber 27 = .ok (.aload_n 0, 1) := by decide +kernel
theorem dX2_takeNumber_28 : decode cX2_takeNumber 28 = .ok (.getfield 40, 3) := by decide +kernel
theorem dX2_takeNumber_31 : decode cX2_takeNumber 31 = .ok (.bipush 10, 2) := by decide +kernel
theorem dX2_takeNumber_33 : decode cX2_takeNumber 33 = .ok (.imul, 1) := by decide +kernel
theorem dX2_takeNumber_34 : decode cX2_takeNumber 34 = .ok (.aload_n 0, 1) := by decide +kernel
theorem dX2_takeNumber_35 : decode cX2_takeNumber 35 = .ok (.getfield 11, 3) := by decide +kernel
theorem dX2_takeNumber_38 : decode cX2_takeNumber 38 = .ok (.aload_n 0, 1) := by decide +kernel
theorem dX2_takeNumber_39 : decode cX2_takeNumber 39 = .ok (.getfield 19, 3) := by decide +kernel
theorem dX2_takeNumber_42 : decode cX2_takeNumber 42 = .ok (.iaload, 1) := by decide +kernel
theorem dX2_takeNumber_43 : decode cX2_takeNumber 43 = .ok (.iadd, 1) := by decide +kernel
theorem dX2_takeNumber_44 : decode cX2_takeNumber 44 = .ok (.bipush 48, 2) := by decide +kernel
theorem dX2_takeNumber_46 : decode cX2_takeNumber 46 = .ok (.isub, 1) := by decide +kernel
theorem dX2_takeNumber_47 : decode cX2_takeNumber 47 = .ok (.bipush 100, 2) := by decide +kernel
theorem dX2_takeNumber_49 : decode cX2_takeNumber 49 = .ok (.invokestatic 97, 3) := by decide +kernel
theorem dX2_takeNumber_52 : decode cX2_takeNumber 52 = .ok (.putfield 40, 3) := by decide +kernel
theorem dX2_takeNumber_55 : decode cX2_takeNumber 55 = .ok (.aload_n 0, 1) := by decide +kernel
theorem dX2_takeNumber_56 : decode cX2_takeNumber 56 = .ok (.dup, 1) := by decide +kernel
theorem dX2_takeNumber_57 : decode cX2_takeNumber 57 = .ok (.getfield 19, 3) := by decide +kernel
theorem dX2_takeNumber_60 : decode cX2_takeNumber 60 = .ok (.iconst 1, 1) := by decide +kernel
theorem dX2_takeNumber_61 : decode cX2_takeNumber 61 = .ok (.iadd, 1) := by decide +kernel
theorem dX2_takeNumber_62 : decode cX2_takeNumber 62 = .ok (.putfield 19, 3) := by decide +kernel
theorem dX2_takeNumber_65 : decode cX2_takeNumber 65 = .ok (.goto (-65), 3) := by decide +kernel
theorem dX2_takeNumber_68 : decode cX2_takeNumber 68 = .ok (.aload_n 0, 1) := by decide +kernel
theorem dX2_takeNumber_69 : decode cX2_takeNumber 69 = .ok (.getfield 19, 3) := by decide +kernel
theorem dX2_takeNumber_72 : decode cX2_takeNumber 72 = .ok (.aload_n 0, 1) := by decide +kernel
theorem dX2_takeNumber_73 : decode cX2_takeNumber 73 = .ok (.getfield 37, 3) := by decide +kernel
theorem dX2_takeNumber_76 : decode cX2_takeNumber 76 = .ok (.isub, 1) := by decide +kernel
theorem dX2_takeNumber_77 : decode cX2_takeNumber 77 = .ok (.iconst 1, 1) := by decide +kernel
theorem dX2_takeNumber_78 : decode cX2_takeNumber 78 = .ok (.if_icmp .le 21, 3) := by decide +kernel
theorem dX2_takeNumber_81 : decode cX2_takeNumber 81 = .ok (.aload_n 0, 1) := by decide +kernel
theorem dX2_takeNumber_82 : decode cX2_takeNumber 82 = .ok (.getfield 11, 3) := by decide +kernel
theorem dX2_takeNumber_85 : decode cX2_takeNumber 85 = .ok (.aload_n 0, 1) := by decide +kernel
theorem dX2_takeNumber_86 : decode cX2_takeNumber 86 = .ok (.getfield 37, 3) := by decide +kernel
theorem dX2_takeNumber_89 : decode cX2_takeNumber 89 = .ok (.iaload, 1) := by decide +kernel
theorem dX2_takeNumber_90 : decode cX2_takeNumber 90 = .ok (.bipush 48, 2) := by decide +kernel
theorem dX2_takeNumber_92 : decode cX2_takeNumber 92 = .ok (.if_icmp .ne 7, 3) := by decide +kernel
theorem dX2_takeNumber_95 : decode cX2_takeNumber 95 = .ok (.iconst 1, 1) := by decide +kernel
theorem dX2_takeNumber_96 : decode cX2_takeNumber 96 = .ok (.goto 4, 3) := by decide +kernel
theorem dX2_takeNumber_99 : decode cX2_takeNumber 99 = .ok (.iconst 0, 1) := by decide +kernel
theorem dX2_takeNumber_100 : decode cX2_takeNumber 100 = .ok (.istore_n 1, 1) := by decide +kernel
theorem dX2_takeNumber_101 : decode cX2_takeNumber 101 = .ok (.aload_n 0, 1) := by decide +kernel
theorem dX2_takeNumber_102 : decode cX2_takeNumber 102 = .ok (.iload_n 1, 1) := by decide +kernel
theorem dX2_takeNumber_103 : decode cX2_takeNumber 103 = .ok (.ifCond .ne 12, 3) := by decide +kernel
theorem dX2_takeNumber_106 : decode cX2_takeNumber 106 = .ok (.aload_n 0, 1) := by decide +kernel
theorem dX2_takeNumber_107 : decode cX2_takeNumber 107 = .ok (.getfield 40, 3) := by decide +kernel
theorem dX2_takeNumber_110 : decode cX2_takeNumber 110 = .ok (.bipush 99, 2) := by decide +kernel
theorem dX2_takeNumber_112 : decode cX2_takeNumber 112 = .ok (.if_icmp .le 7, 3) := by decide +kernel
theorem dX2_takeNumber_115 : decode cX2_takeNumber 115 = .ok (.iconst 4, 1) := by decide +kernel
theorem dX2_takeNumber_116 : decode cX2_takeNumber 116 = .ok (.goto 4, 3) := by decide +kernel
theorem dX2_takeNumber_119 : decode cX2_takeNumber 119 = .ok (.iconst 2, 1) := by decide +kernel
theorem dX2_takeNumber_120 : decode cX2_takeNumber 120 = .ok (.putfield 30, 3) := by decide +kernel
theorem dX2_takeNumber_123 : decode cX2_takeNumber 123 = .ok (.return_, 1) := by decide +kernel
theorem dX2_isLetter_0 : decode cX2_isLetter 0 = .ok (.iload_n 0, 1) := by decide +kernel
theorem dX2_isLetter_1 : decode cX2_isLetter 1 = .ok (.bipush 97, 2) := by decide +kernel
theorem dX2_isLetter_3 : decode cX2_isLetter 3 = .ok (.if_icmp .lt 13, 3) := by decide +kernel
theorem dX2_isLetter_6 : decode cX2_isLetter 6 = .ok (.iload_n 0, 1) := by decide +kernel
theorem dX2_isLetter_7 : decode cX2_isLetter 7 = .ok (.bipush 122, 2) := by decide +kernel
theorem dX2_isLetter_9 : decode cX2_isLetter 9 = .ok (.if_icmp .gt 7, 3) := by decide +kernel
theorem dX2_isLetter_12 : decode cX2_isLetter 12 = .ok (.iconst 1, 1) := by decide +kernel
theorem dX2_isLetter_13 : decode cX2_isLetter 13 = .ok (.goto 4, 3) := by decide +kernel
theorem dX2_isLetter_16 : decode cX2_isLetter 16 = .ok (.iconst 0, 1) := by decide +kernel
theorem dX2_isLetter_17 : decode cX2_isLetter 17 = .ok (.ireturn, 1) := by decide +kernel
theorem dX2_isDigit_0 : decode cX2_isDigit 0 = .ok (.iload_n 0, 1) := by decide +kernel
theorem dX2_isDigit_1 : decode cX2_isDigit 1 = .ok (.bipush 48, 2) := by decide +kernel
theorem dX2_isDigit_3 : decode cX2_isDigit 3 = .ok (.if_icmp .lt 13, 3) := by decide +kernel
theorem dX2_isDigit_6 : decode cX2_isDigit 6 = .ok (.iload_n 0, 1) := by decide +kernel
theorem dX2_isDigit_7 : decode cX2_isDigit 7 = .ok (.bipush 57, 2) := by decide +kernel
theorem dX2_isDigit_9 : decode cX2_isDigit 9 = .ok (.if_icmp .gt 7, 3) := by decide +kernel
theorem dX2_isDigit_12 : decode cX2_isDigit 12 = .ok (.iconst 1, 1) := by decide +kernel
theorem dX2_isDigit_13 : decode cX2_isDigit 13 = .ok (.goto 4, 3) := by decide +kernel
theorem dX2_isDigit_16 : decode cX2_isDigit 16 = .ok (.iconst 0, 1) := by decide +kernel
theorem dX2_isDigit_17 : decode cX2_isDigit 17 = .ok (.ireturn, 1) := by decide +kernel
theorem dX3_init_0 : decode cX3_init 0 = .ok (.aload_n 0, 1) := by decide +kernel
theorem dX3_init_1 : decode cX3_init 1 = .ok (.invokespecial 3, 3) := by decide +kernel
theorem dX3_init_4 : decode cX3_init 4 = .ok (.aload_n 0, 1) := by decide +kernel
theorem dX3_init_5 : decode cX3_init 5 = .ok (.bipush 10, 2) := by decide +kernel
theorem dX3_init_7 : decode cX3_init 7 = .ok (.newarray .int, 2) := by decide +kernel
theorem dX3_init_9 : decode cX3_init 9 = .ok (.putfield 9, 3) := by decide +kernel
theorem dX3_init_12 : decode cX3_init 12 = .ok (.aload_n 0, 1) := by decide +kernel
theorem dX3_init_13 : decode cX3_init 13 = .ok (.bipush 30, 2) := by decide +kernel
theorem dX3_init_15 : decode cX3_init 15 = .ok (.newarray .int, 2) := by decide +kernel
theorem dX3_init_17 : decode cX3_init 17 = .ok (.putfield 15, 3) := by decide +kernel
theorem dX3_init_20 : decode cX3_init 20 = .ok (.return_, 1) := by decide +kernel
theorem dX3_forgetAll_0 : decode cX3_forgetAll 0 = .ok (.aload_n 0, 1) := by decide +kernel
theorem dX3_forgetAll_1 : decode cX3_forgetAll 1 = .ok (.iconst 0, 1) := by decide +kernel
theorem dX3_forgetAll_2 : decode cX3_forgetAll 2 = .ok (.putfield 18, 3) := by decide +kernel
theorem dX3_forgetAll_5 : decode cX3_forgetAll 5 = .ok (.aload_n 0, 1) := by decide +kernel
theorem dX3_forgetAll_6 : decode cX3_forgetAll 6 = .ok (.iconst 0, 1) := by decide +kernel
theorem dX3_forgetAll_7 : decode cX3_forgetAll 7 = .ok (.putfield 22, 3) := by decide +kernel
theorem dX3_forgetAll_10 : decode cX3_forgetAll 10 = .ok (.return_, 1) := by decide +kernel
theorem dX3_ovens_0 : decode cX3_ovens 0 = .ok (.aload_n 0, 1) := by decide +kernel
theorem dX3_ovens_1 : decode cX3_ovens 1 = .ok (.getfield 18, 3) := by decide +kernel
theorem dX3_ovens_4 : decode cX3_ovens 4 = .ok (.ireturn, 1) := by decide +kernel
theorem dX3_doughs_0 : decode cX3_doughs 0 = .ok (.aload_n 0, 1) := by decide +kernel
theorem dX3_doughs_1 : decode cX3_doughs 1 = .ok (.getfield 22, 3) := by decide +kernel
theorem dX3_doughs_4 : decode cX3_doughs 4 = .ok (.ireturn, 1) := by decide +kernel
theorem dX3_hasOven_0 : decode cX3_hasOven 0 = .ok (.iload_n 1, 1) := by decide +kernel
theorem dX3_hasOven_1 : decode cX3_hasOven 1 = .ok (.ifCond .lt 15, 3) := by decide +kernel
theorem dX3_hasOven_4 : decode cX3_hasOven 4 = .ok (.iload_n 1, 1) := by decide +kernel
theorem dX3_hasOven_5 : decode cX3_hasOven 5 = .ok (.aload_n 0, 1) := by decide +kernel
theorem dX3_hasOven_6 : decode cX3_hasOven 6 = .ok (.getfield 18, 3) := by decide +kernel
theorem dX3_hasOven_9 : decode cX3_hasOven 9 = .ok (.if_icmp .ge 7, 3) := by decide +kernel
theorem dX3_hasOven_12 : decode cX3_hasOven 12 = .ok (.iconst 1, 1) := by decide +kernel
theorem dX3_hasOven_13 : decode cX3_hasOven 13 = .ok (.goto 4, 3) := by decide +kernel
theorem dX3_hasOven_16 : decode cX3_hasOven 16 = .ok (.iconst 0, 1) := by decide +kernel
theorem dX3_hasOven_17 : decode cX3_hasOven 17 = .ok (.ireturn, 1) := by decide +kernel
theorem dX3_hasDough_0 : decode cX3_hasDough 0 = .ok (.iload_n 1, 1) := by decide +kernel
theorem dX3_hasDough_1 : decode cX3_hasDough 1 = .ok (.ifCond .lt 15, 3) := by decide +kernel
theorem dX3_hasDough_4 : decode cX3_hasDough 4 = .ok (.iload_n 1, 1) := by decide +kernel
theorem dX3_hasDough_5 : decode cX3_hasDough 5 = .ok (.aload_n 0, 1) := by decide +kernel
theorem dX3_hasDough_6 : decode cX3_hasDough 6 = .ok (.getfield 22, 3) := by decide +kernel
theorem dX3_hasDough_9 : decode cX3_hasDough 9 = .ok (.if_icmp .ge 7, 3) := by decide +kernel
theorem dX3_hasDough_12 : decode cX3_hasDough 12 = .ok (.iconst 1, 1) := by decide +kernel
theorem dX3_hasDough_13 : decode cX3_hasDough 13 = .ok (.goto 4, 3) := by decide +kernel
theorem dX3_hasDough_16 : decode cX3_hasDough 16 = .ok (.iconst 0, 1) := by decide +kernel
theorem dX3_hasDough_17 : decode cX3_hasDough 17 = .ok (.ireturn, 1) := by decide +kernel
theorem dX3_ofOven_0 : decode cX3_ofOven 0 = .ok (.iload_n 1, 1) := by decide +kernel
theorem dX3_ofOven_1 : decode cX3_ofOven 1 = .ok (.iconst 2, 1) := by decide +kernel
theorem dX3_ofOven_2 : decode cX3_ofOven 2 = .ok (.imul, 1) := by decide +kernel
theorem dX3_ofOven_3 : decode cX3_ofOven 3 = .ok (.iload_n 2, 1) := by decide +kernel
theorem dX3_ofOven_4 : decode cX3_ofOven 4 = .ok (.iadd, 1) := by decide +kernel
theorem dX3_ofOven_5 : decode cX3_ofOven 5 = .ok (.istore_n 3, 1) := by decide +kernel
theorem dX3_ofOven_6 : decode cX3_ofOven 6 = .ok (.aload_n 0, 1) := by decide +kernel
theorem dX3_ofOven_7 : decode cX3_ofOven 7 = .ok (.iload_n 1, 1) := by decide +kernel
theorem dX3_ofOven_8 : decode cX3_ofOven 8 = .ok (.invokevirtual 25, 3) := by decide +kernel
theorem dX3_ofOven_11 : decode cX3_ofOven 11 = .ok (.ifCond .eq 25, 3) := by decide +kernel
theorem dX3_ofOven_14 : decode cX3_ofOven 14 = .ok (.iload_n 3, 1) := by decide +kernel
theorem dX3_ofOven_15 : decode cX3_ofOven 15 = .ok (.ifCond .lt 21, 3) := by decide +kernel
theorem dX3_ofOven_18 : decode cX3_ofOven 18 = .ok (.iload_n 3, 1) := by decide +kernel
theorem dX3_ofOven_19 : decode cX3_ofOven 19 = .ok (.aload_n 0, 1) := by decide +kernel
theorem dX3_ofOven_20 : decode cX3_ofOven 20 = .ok (.getfield 9, 3) := by decide +kernel
theorem dX3_ofOven_23 : decode cX3_ofOven 23 = .ok (.arraylength, 1) := by decide +kernel
theorem dX3_ofOven_24 : decode cX3_ofOven 24 = .ok (.if_icmp .ge 12, 3) := by decide +kernel
theorem dX3_ofOven_27 : decode cX3_ofOven 27 = .ok (.aload_n 0, 1) := by decide +kernel
theorem dX3_ofOven_28 : decode cX3_ofOven 28 = .ok (.getfield 9, 3) := by decide +kernel
theorem dX3_ofOven_31 : decode cX3_ofOven 31 = .ok (.iload_n 3, 1) := by decide +kernel
theorem dX3_ofOven_32 : decode cX3_ofOven 32 = .ok (.iaload, 1) := by decide +kernel
theorem dX3_ofOven_33 : decode cX3_ofOven 33 = .ok (.goto 4, 3) := by decide +kernel
theorem dX3_ofOven_36 : decode cX3_ofOven 36 = .ok (.iconst 0, 1) := by decide +kernel
theorem dX3_ofOven_37 : decode cX3_ofOven 37 = .ok (.ireturn, 1) := by decide +kernel
theorem dX3_ofDough_0 : decode cX3_ofDough 0 = .ok (.iload_n 1, 1) := by decide +kernel
theorem dX3_ofDough_1 : decode cX3_ofDough 1 = .ok (.iconst 5, 1) := by decide +kernel
theorem dX3_ofDough_2 : decode cX3_ofDough 2 = .ok (.imul, 1) := by decide +kernel
theorem dX3_ofDough_3 : decode cX3_ofDough 3 = .ok (.iload_n 2, 1) := by decide +kernel
theorem dX3_ofDough_4 : decode cX3_ofDough 4 = .ok (.iadd, 1) := by decide +kernel
theorem dX3_ofDough_5 : decode cX3_ofDough 5 = .ok (.istore_n 3, 1) := by decide +kernel
theorem dX3_ofDough_6 : decode cX3_ofDough 6 = .ok (.aload_n 0, 1) := by decide +kernel
theorem dX3_ofDough_7 : decode cX3_ofDough 7 = .ok (.iload_n 1, 1) := by decide +kernel
theorem dX3_ofDough_8 : decode cX3_ofDough 8 = .ok (.invokevirtual 29, 3) := by decide +kernel
theorem dX3_ofDough_11 : decode cX3_ofDough 11 = .ok (.ifCond .eq 25, 3) := by decide +kernel
theorem dX3_ofDough_14 : decode cX3_ofDough 14 = .ok (.iload_n 3, 1) := by decide +kernel
theorem dX3_ofDough_15 : decode cX3_ofDough 15 = .ok (.ifCond .lt 21, 3) := by decide +kernel
theorem dX3_ofDough_18 : decode cX3_ofDough 18 = .ok (.iload_n 3, 1) := by decide +kernel
theorem dX3_ofDough_19 : decode cX3_ofDough 19 = .ok (.aload_n 0, 1) := by decide +kernel
theorem dX3_ofDough_20 : decode cX3_ofDough 20 = .ok (.getfield 15, 3) := by decide +kernel
theorem dX3_ofDough_23 : decode cX3_ofDough 23 = .ok (.arraylength, 1) := by decide +kernel
theorem dX3_ofDough_24 : decode cX3_ofDough 24 = .ok (.if_icmp .ge 12, 3) := by decide +kernel
theorem dX3_ofDough_27 : decode cX3_ofDough 27 = .ok (.aload_n 0, 1) := by decide +kernel
theorem dX3_ofDough_28 : decode cX3_ofDough 28 = .ok (.getfield 15, 3) := by decide +kernel
theorem dX3_ofDough_31 : decode cX3_ofDough 31 = .ok (.iload_n 3, 1) := by decide +kernel
theorem dX3_ofDough_32 : decode cX3_ofDough 32 = .ok (.iaload, 1) := by decide +kernel
theorem dX3_ofDough_33 : decode cX3_ofDough 33 = .ok (.goto 4, 3) := by decide +kernel
theorem dX3_ofDough_36 : decode cX3_ofDough 36 = .ok (.iconst 0, 1) := by decide +kernel
theorem dX3_ofDough_37 : decode cX3_ofDough 37 = .ok (.ireturn, 1) := by decide +kernel
theorem dX3_addOven_0 : decode cX3_addOven 0 = .ok (.aload_n 0, 1) := by decide +kernel
theorem dX3_addOven_1 : decode cX3_addOven 1 = .ok (.getfield 18, 3) := by decide +kernel
theorem dX3_addOven_4 : decode cX3_addOven 4 = .ok (.iconst 5, 1) := by decide +kernel
theorem dX3_addOven_5 : decode cX3_addOven 5 = .ok (.if_icmp .lt 5, 3) := by decide +kernel
theorem dX3_addOven_8 : decode cX3_addOven 8 = .ok (.iconst 0, 1) := by decide +kernel
theorem dX3_addOven_9 : decode cX3_addOven 9 = .ok (.ireturn, 1) := by decide +kernel
theorem dX3_addOven_10 : decode cX3_addOven 10 = .ok (.aload_n 0, 1) := by decide +kernel
theorem dX3_addOven_11 : decode cX3_addOven 11 = .ok (.dup, 1) := by decide +kernel
theorem dX3_addOven_12 : decode cX3_addOven 12 = .ok (.getfield 18, 3) := by decide +kernel
theorem dX3_addOven_15 : decode cX3_addOven 15 = .ok (.iconst 1, 1) := by decide +kernel
theorem dX3_addOven_16 : decode cX3_addOven 16 = .ok (.iadd, 1) := by decide +kernel
theorem dX3_addOven_17 : decode cX3_addOven 17 = .ok (.putfield 18, 3) := by decide +kernel
theorem dX3_addOven_20 : decode cX3_addOven 20 = .ok (.iconst 1, 1) := by decide +kernel
theorem dX3_addOven_21 : decode cX3_addOven 21 = .ok (.ireturn, 1) := by decide +kernel
theorem dX3_addDough_0 : decode cX3_addDough 0 = .ok (.aload_n 0, 1) := by decide +kernel
theorem dX3_addDough_1 : decode cX3_addDough 1 = .ok (.getfield 22, 3) := by decide +kernel
theorem dX3_addDough_4 : decode cX3_addDough 4 = .ok (.bipush 6, 2) := by decide +kernel
theorem dX3_addDough_6 : decode cX3_addDough 6 = .ok (.if_icmp .lt 5, 3) := by decide +kernel
theorem dX3_addDough_9 : decode cX3_addDough 9 = .ok (.iconst 0, 1) := by decide +kernel
theorem dX3_addDough_10 : decode cX3_addDough 10 = .ok (.ireturn, 1) := by decide +kernel
theorem dX3_addDough_11 : decode cX3_addDough 11 = .ok (.aload_n 0, 1) := by decide +kernel
theorem dX3_addDough_12 : decode cX3_addDough 12 = .ok (.dup, 1) := by decide +kernel
theorem dX3_addDough_13 : decode cX3_addDough 13 = .ok (.getfield 22, 3) := by decide +kernel
theorem dX3_addDough_16 : decode cX3_addDough 16 = .ok (.iconst 1, 1) := by decide +kernel
theorem dX3_addDough_17 : decode cX3_addDough 17 = .ok (.iadd, 1) := by decide +kernel
theorem dX3_addDough_18 : decode cX3_addDough 18 = .ok (.putfield 22, 3) := by decide +kernel
theorem dX3_addDough_21 : decode cX3_addDough 21 = .ok (.iconst 1, 1) := by decide +kernel
theorem dX3_addDough_22 : decode cX3_addDough 22 = .ok (.ireturn, 1) := by decide +kernel
theorem dX3_setOfLastOven_0 : decode cX3_setOfLastOven 0 = .ok (.aload_n 0, 1) := by decide +kernel
theorem dX3_setOfLastOven_1 : decode cX3_setOfLastOven 1 = .ok (.getfield 18, 3) := by decide +kernel
theorem dX3_setOfLastOven_4 : decode cX3_setOfLastOven 4 = .ok (.iconst 1, 1) := by decide +kernel
theorem dX3_setOfLastOven_5 : decode cX3_setOfLastOven 5 = .ok (.isub, 1) := by decide +kernel
theorem dX3_setOfLastOven_6 : decode cX3_setOfLastOven 6 = .ok (.iconst 2, 1) := by decide +kernel
theorem dX3_setOfLastOven_7 : decode cX3_setOfLastOven 7 = .ok (.imul, 1) := by decide +kernel
theorem dX3_setOfLastOven_8 : decode cX3_setOfLastOven 8 = .ok (.iload_n 1, 1) := by decide +kernel
theorem dX3_setOfLastOven_9 : decode cX3_setOfLastOven 9 = .ok (.iadd, 1) := by decide +kernel
theorem dX3_setOfLastOven_10 : decode cX3_setOfLastOven 10 = .ok (.istore_n 3, 1) := by decide +kernel
theorem dX3_setOfLastOven_11 : decode cX3_setOfLastOven 11 = .ok (.iload_n 3, 1) := by decide +kernel
theorem dX3_setOfLastOven_12 : decode cX3_setOfLastOven 12 = .ok (.ifCond .lt 19, 3) := by decide +kernel
theorem dX3_setOfLastOven_15 : decode cX3_setOfLastOven 15 = .ok (.iload_n 3, 1) := by decide +kernel
theorem dX3_setOfLastOven_16 : decode cX3_setOfLastOven 16 = .ok (.aload_n 0, 1) := by decide +kernel
theorem dX3_setOfLastOven_17 : decode cX3_setOfLastOven 17 = .ok (.getfield 9, 3) := by decide +kernel
theorem dX3_setOfLastOven_20 : decode cX3_setOfLastOven 20 = .ok (.arraylength, 1) := by decide +kernel
theorem dX3_setOfLastOven_21 : decode cX3_setOfLastOven 21 = .ok (.if_icmp .ge 10, 3) := by decide +kernel
theorem dX3_setOfLastOven_24 : decode cX3_setOfLastOven 24 = .ok (.aload_n 0, 1) := by decide +kernel
theorem dX3_setOfLastOven_25 : decode cX3_setOfLastOven 25 = .ok (.getfield 9, 3) := by decide +kernel
theorem dX3_setOfLastOven_28 : decode cX3_setOfLastOven 28 = .ok (.iload_n 3, 1) := by decide +kernel
theorem dX3_setOfLastOven_29 : decode cX3_setOfLastOven 29 = .ok (.iload_n 2, 1) := by decide +kernel
theorem dX3_setOfLastOven_30 : decode cX3_setOfLastOven 30 = .ok (.iastore, 1) := by decide +kernel
theorem dX3_setOfLastOven_31 : decode cX3_setOfLastOven 31 = .ok (.return_, 1) := by decide +kernel
theorem dX3_setOfLastDough_0 : decode cX3_setOfLastDough 0 = .ok (.aload_n 0, 1) := by decide +kernel
theorem dX3_setOfLastDough_1 : decode cX3_setOfLastDough 1 = .ok (.getfield 22, 3) := by decide +kernel
theorem dX3_setOfLastDough_4 : decode cX3_setOfLastDough 4 = .ok (.iconst 1, 1) := by decide +kernel
theorem dX3_setOfLastDough_5 : decode cX3_setOfLastDough 5 = .ok (.isub, 1) := by decide +kernel
theorem dX3_setOfLastDough_6 : decode cX3_setOfLastDough 6 = .ok (.iconst 5, 1) := by decide +kernel
theorem dX3_setOfLastDough_7 : decode cX3_setOfLastDough 7 = .ok (.imul, 1) := by decide +kernel
theorem dX3_setOfLastDough_8 : decode cX3_setOfLastDough 8 = .ok (.iload_n 1, 1) := by decide +kernel
theorem dX3_setOfLastDough_9 : decode cX3_setOfLastDough 9 = .ok (.iadd, 1) := by decide +kernel
theorem dX3_setOfLastDough_10 : decode cX3_setOfLastDough 10 = .ok (.istore_n 3, 1) := by decide +kernel
theorem dX3_setOfLastDough_11 : decode cX3_setOfLastDough 11 = .ok (.iload_n 3, 1) := by decide +kernel
theorem dX3_setOfLastDough_12 : decode cX3_setOfLastDough 12 = .ok (.ifCond .lt 19, 3) := by decide +kernel
theorem dX3_setOfLastDough_15 : decode cX3_setOfLastDough 15 = .ok (.iload_n 3, 1) := by decide +kernel
theorem dX3_setOfLastDough_16 : decode cX3_setOfLastDough 16 = .ok (.aload_n 0, 1) := by decide +kernel
theorem dX3_setOfLastDough_17 : decode cX3_setOfLastDough 17 = .ok (.getfield 15, 3) := by decide +kernel
theorem dX3_setOfLastDough_20 : decode cX3_setOfLastDough 20 = .ok (.arraylength, 1) := by decide +kernel
theorem dX3_setOfLastDough_21 : decode cX3_setOfLastDough 21 = .ok (.if_icmp .ge 10, 3) := by decide +kernel
theorem dX3_setOfLastDough_24 : decode cX3_setOfLastDough 24 = .ok (.aload_n 0, 1) := by decide +kernel
theorem dX3_setOfLastDough_25 : decode cX3_setOfLastDough 25 = .ok (.getfield 15, 3) := by decide +kernel
theorem dX3_setOfLastDough_28 : decode cX3_setOfLastDough 28 = .ok (.iload_n 3, 1) := by decide +kernel
theorem dX3_setOfLastDough_29 : decode cX3_setOfLastDough 29 = .ok (.iload_n 2, 1) := by decide +kernel
theorem dX3_setOfLastDough_30 : decode cX3_setOfLastDough 30 = .ok (.iastore, 1) := by decide +kernel
theorem dX3_setOfLastDough_31 : decode cX3_setOfLastDough 31 = .ok (.return_, 1) := by decide +kernel
theorem dX4_init_0 : decode cX4_init 0 = .ok (.aload_n 0, 1) := by decide +kernel
theorem dX4_init_1 : decode cX4_init 1 = .ok (.invokespecial 3, 3) := by decide +kernel
theorem dX4_init_4 : decode cX4_init 4 = .ok (.aload_n 0, 1) := by decide +kernel
theorem dX4_init_5 : decode cX4_init 5 = .ok (.new 9, 3) := by decide +kernel
theorem dX4_init_8 : decode cX4_init 8 = .ok (.dup, 1) := by decide +kernel
theorem dX4_init_9 : decode cX4_init 9 = .ok (.invokespecial 11, 3) := by decide +kernel
theorem dX4_init_12 : decode cX4_init 12 = .ok (.putfield 12, 3) := by decide +kernel
theorem dX4_init_15 : decode cX4_init 15 = .ok (.aload_n 0, 1) := by decide +kernel
theorem dX4_init_16 : decode cX4_init 16 = .ok (.new 16, 3) := by decide +kernel
theorem dX4_init_19 : decode cX4_init 19 = .ok (.dup, 1) := by decide +kernel
theorem dX4_init_20 : decode cX4_init 20 = .ok (.invokespecial 18, 3) := by decide +kernel
theorem dX4_init_23 : decode cX4_init 23 = .ok (.putfield 19, 3) := by decide +kernel
theorem dX4_init_26 : decode cX4_init 26 = .ok (.aload_n 0, 1) := by decide +kernel
theorem dX4_init_27 : decode cX4_init 27 = .ok (.new 16, 3) := by decide +kernel
theorem dX4_init_30 : decode cX4_init 30 = .ok (.dup, 1) := by decide +kernel
theorem dX4_init_31 : decode cX4_init 31 = .ok (.invokespecial 18, 3) := by decide +kernel
theorem dX4_init_34 : decode cX4_init 34 = .ok (.putfield 23, 3) := by decide +kernel
theorem dX4_init_37 : decode cX4_init 37 = .ok (.aload_n 0, 1) := by decide +kernel
theorem dX4_init_38 : decode cX4_init 38 = .ok (.new 26, 3) := by decide +kernel
theorem dX4_init_41 : decode cX4_init 41 = .ok (.dup, 1) := by decide +kernel
theorem dX4_init_42 : decode cX4_init 42 = .ok (.invokespecial 28, 3) := by decide +kernel
theorem dX4_init_45 : decode cX4_init 45 = .ok (.putfield 29, 3) := by decide +kernel
theorem dX4_init_48 : decode cX4_init 48 = .ok (.aload_n 0, 1) := by decide +kernel
theorem dX4_init_49 : decode cX4_init 49 = .ok (.new 26, 3) := by decide +kernel
theorem dX4_init_52 : decode cX4_init 52 = .ok (.dup, 1) := by decide +kernel
theorem dX4_init_53 : decode cX4_init 53 = .ok (.invokespecial 28, 3) := by decide +kernel
theorem dX4_init_56 : decode cX4_init 56 = .ok (.putfield 33, 3) := by decide +kernel
theorem dX4_init_59 : decode cX4_init 59 = .ok (.aload_n 0, 1) := by decide +kernel
theorem dX4_init_60 : decode cX4_init 60 = .ok (.new 26, 3) := by decide +kernel
theorem dX4_init_63 : decode cX4_init 63 = .ok (.dup, 1) := by decide +kernel
theorem dX4_init_64 : decode cX4_init 64 = .ok (.invokespecial 28, 3) := by decide +kernel
theorem dX4_init_67 : decode cX4_init 67 = .ok (.putfield 36, 3) := by decide +kernel
theorem dX4_init_70 : decode cX4_init 70 = .ok (.aload_n 0, 1) := by decide +kernel
theorem dX4_init_71 : decode cX4_init 71 = .ok (.new 26, 3) := by decide +kernel
theorem dX4_init_74 : decode cX4_init 74 = .ok (.dup, 1) := by decide +kernel
theorem dX4_init_75 : decode cX4_init 75 = .ok (.invokespecial 28, 3) := by decide +kernel
theorem dX4_init_78 : decode cX4_init 78 = .ok (.putfield 39, 3) := by decide +kernel
theorem dX4_init_81 : decode cX4_init 81 = .ok (.aload_n 0, 1) := by decide +kernel
theorem dX4_init_82 : decode cX4_init 82 = .ok (.bipush 6, 2) := by decide +kernel
theorem dX4_init_84 : decode cX4_init 84 = .ok (.newarray .int, 2) := by decide +kernel
theorem dX4_init_86 : decode cX4_init 86 = .ok (.putfield 42, 3) := by decide +kernel
theorem dX4_init_89 : decode cX4_init 89 = .ok (.aload_n 0, 1) := by decide +kernel
theorem dX4_init_90 : decode cX4_init 90 = .ok (.bipush 6, 2) := by decide +kernel
theorem dX4_init_92 : decode cX4_init 92 = .ok (.newarray .int, 2) := by decide +kernel
theorem dX4_init_94 : decode cX4_init 94 = .ok (.putfield 46, 3) := by decide +kernel
theorem dX4_init_97 : decode cX4_init 97 = .ok (.aload_n 0, 1) := by decide +kernel
theorem dX4_init_98 : decode cX4_init 98 = .ok (.new 49, 3) := by decide +kernel
theorem dX4_init_101 : decode cX4_init 101 = .ok (.dup, 1) := by decide +kernel
theorem dX4_init_102 : decode cX4_init 102 = .ok (.invokespecial 51, 3) := by decide +kernel
theorem dX4_init_105 : decode cX4_init 105 = .ok (.putfield 52, 3) := by decide +kernel
theorem dX4_init_108 : decode cX4_init 108 = .ok (.return_, 1) := by decide +kernel
theorem dX4_type_0 : decode cX4_type 0 = .ok (.iload_n 1, 1) := by decide +kernel
theorem dX4_type_1 : decode cX4_type 1 = .ok (.ifCond .lt 10, 3) := by decide +kernel
theorem dX4_type_4 : decode cX4_type 4 = .ok (.iload_n 1, 1) := by decide +kernel
theorem dX4_type_5 : decode cX4_type 5 = .ok (.sipush 255, 3) := by decide +kernel
theorem dX4_type_8 : decode cX4_type 8 = .ok (.if_icmp .le 5, 3) := by decide +kernel
theorem dX4_type_11 : decode cX4_type 11 = .ok (.iconst (-1), 1) := by decide +kernel
theorem dX4_type_12 : decode cX4_type 12 = .ok (.ireturn, 1) := by decide +kernel
theorem dX4_type_13 : decode cX4_type 13 = .ok (.aload_n 0, 1) := by decide +kernel
theorem dX4_type_14 : decode cX4_type 14 = .ok (.getfield 12, 3) := by decide +kernel
theorem dX4_type_17 : decode cX4_type 17 = .ok (.iload_n 1, 1) := by decide +kernel
theorem dX4_type_18 : decode cX4_type 18 = .ok (.invokevirtual 56, 3) := by decide +kernel
theorem dX4_type_21 : decode cX4_type 21 = .ok (.ifCond .eq 13, 3) := by decide +kernel
theorem dX4_type_24 : decode cX4_type 24 = .ok (.aload_n 0, 1) := by decide +kernel
theorem dX4_type_25 : decode cX4_type 25 = .ok (.getfield 12, 3) := by decide +kernel
theorem dX4_type_28 : decode cX4_type 28 = .ok (.invokevirtual 60, 3) := by decide +kernel
theorem dX4_type_31 : decode cX4_type 31 = .ok (.goto 5, 3) := by decide +kernel
theorem dX4_type_34 : decode cX4_type 34 = .ok (.bipush (-3), 2) := by decide +kernel
theorem dX4_type_36 : decode cX4_type 36 = .ok (.ireturn, 1) := by decide +kernel
theorem dX4_clear_0 : decode cX4_clear 0 = .ok (.aload_n 0, 1) := by decide +kernel
theorem dX4_clear_1 : decode cX4_clear 1 = .ok (.getfield 12, 3) := by decide +kernel
theorem dX4_clear_4 : decode cX4_clear 4 = .ok (.invokevirtual 60, 3) := by decide +kernel
theorem dX4_clear_7 : decode cX4_clear 7 = .ok (.istore_n 1, 1) := by decide +kernel
theorem dX4_clear_8 : decode cX4_clear 8 = .ok (.aload_n 0, 1) := by decide +kernel
theorem dX4_clear_9 : decode cX4_clear 9 = .ok (.getfield 12, 3) := by decide +kernel
theorem dX4_clear_12 : decode cX4_clear 12 = .ok (.invokevirtual 64, 3) := by decide +kernel
theorem dX4_clear_15 : decode cX4_clear 15 = .ok (.iload_n 1, 1) := by decide +kernel
theorem dX4_clear_16 : decode cX4_clear 16 = .ok (.ireturn, 1) := by decide +kernel
theorem dX4_quarter_0 : decode cX4_quarter 0 = .ok (.aload_n 0, 1) := by decide +kernel
theorem dX4_quarter_1 : decode cX4_quarter 1 = .ok (.getfield 12, 3) := by decide +kernel
theorem dX4_quarter_4 : decode cX4_quarter 4 = .ok (.aload_n 0, 1) := by decide +kernel
theorem dX4_quarter_5 : decode cX4_quarter 5 = .ok (.getfield 23, 3) := by decide +kernel
theorem dX4_quarter_8 : decode cX4_quarter 8 = .ok (.invokevirtual 67, 3) := by decide +kernel
theorem dX4_quarter_11 : decode cX4_quarter 11 = .ok (.istore_n 1, 1) := by decide +kernel
theorem dX4_quarter_12 : decode cX4_quarter 12 = .ok (.iload_n 1, 1) := by decide +kernel
theorem dX4_quarter_13 : decode cX4_quarter 13 = .ok (.ifCond .ge 5, 3) := by decide +kernel
theorem dX4_quarter_16 : decode cX4_quarter 16 = .ok (.iload_n 1, 1) := by decide +kernel
theorem dX4_quarter_17 : decode cX4_quarter 17 = .ok (.ireturn, 1) := by decide +kernel
theorem dX4_quarter_18 : decode cX4_quarter 18 = .ok (.aload_n 0, 1) := by decide +kernel
theorem dX4_quarter_19 : decode cX4_quarter 19 = .ok (.getfield 19, 3) := by decide +kernel
theorem dX4_quarter_22 : decode cX4_quarter 22 = .ok (.astore_n 2, 1) := by decide +kernel
theorem dX4_quarter_23 : decode cX4_quarter 23 = .ok (.aload_n 0, 1) := by decide +kernel
theorem dX4_quarter_24 : decode cX4_quarter 24 = .ok (.aload_n 0, 1) := by decide +kernel
theorem dX4_quarter_25 : decode cX4_quarter 25 = .ok (.getfield 23, 3) := by decide +kernel
theorem dX4_quarter_28 : decode cX4_quarter 28 = .ok (.putfield 19, 3) := by decide +kernel
theorem dX4_quarter_31 : decode cX4_quarter 31 = .ok (.aload_n 0, 1) := by decide +kernel
theorem dX4_quarter_32 : decode cX4_quarter 32 = .ok (.aload_n 2, 1) := by decide +kernel
theorem dX4_quarter_33 : decode cX4_quarter 33 = .ok (.putfield 23, 3) := by decide +kernel
theorem dX4_quarter_36 : decode cX4_quarter 36 = .ok (.aload_n 0, 1) := by decide +kernel
theorem dX4_quarter_37 : decode cX4_quarter 37 = .ok (.getfield 12, 3) := by decide +kernel
theorem dX4_quarter_40 : decode cX4_quarter 40 = .ok (.invokevirtual 64, 3) := by decide +kernel
theorem dX4_quarter_43 : decode cX4_quarter 43 = .ok (.aload_n 0, 1) := by decide +kernel
theorem dX4_quarter_44 : decode cX4_quarter 44 = .ok (.getfield 29, 3) := by decide +kernel
theorem dX4_quarter_47 : decode cX4_quarter 47 = .ok (.invokevirtual 71, 3) := by decide +kernel
theorem dX4_quarter_50 : decode cX4_quarter 50 = .ok (.aload_n 0, 1) := by decide +kernel
theorem dX4_quarter_51 : decode cX4_quarter 51 = .ok (.iconst 0, 1) := by decide +kernel
theorem dX4_quarter_52 : decode cX4_quarter 52 = .ok (.putfield 74, 3) := by decide +kernel
theorem dX4_quarter_55 : decode cX4_quarter 55 = .ok (.aload_n 0, 1) := by decide +kernel
theorem dX4_quarter_56 : decode cX4_quarter 56 = .ok (.iconst 0, 1) := by decide +kernel
theorem dX4_quarter_57 : decode cX4_quarter 57 = .ok (.putfield 78, 3) := by decide +kernel
theorem dX4_quarter_60 : decode cX4_quarter 60 = .ok (.iload_n 1, 1) := by decide +kernel
theorem dX4_quarter_61 : decode cX4_quarter 61 = .ok (.ireturn, 1) := by decide +kernel
theorem dX4_oven_0 : decode cX4_oven 0 = .ok (.aload_n 0, 1) := by decide +kernel
theorem dX4_oven_1 : decode cX4_oven 1 = .ok (.getfield 19, 3) := by decide +kernel
theorem dX4_oven_4 : decode cX4_oven 4 = .ok (.iload_n 1, 1) := by decide +kernel
theorem dX4_oven_5 : decode cX4_oven 5 = .ok (.invokevirtual 81, 3) := by decide +kernel
theorem dX4_oven_8 : decode cX4_oven 8 = .ok (.ifCond .ne 6, 3) := by decide +kernel
theorem dX4_oven_11 : decode cX4_oven 11 = .ok (.ldc 84, 2) := by decide +kernel
theorem dX4_oven_13 : decode cX4_oven 13 = .ok (.ireturn, 1) := by decide +kernel
theorem dX4_oven_14 : decode cX4_oven 14 = .ok (.iload_n 2, 1) := by decide +kernel
theorem dX4_oven_15 : decode cX4_oven 15 = .ok (.tableswitch 99 0 4 #[33, 43, 56, 69, 82], 33) := by decide +kernel
theorem dX4_oven_48 : decode cX4_oven 48 = .ok (.aload_n 0, 1) := by decide +kernel
theorem dX4_oven_49 : decode cX4_oven 49 = .ok (.getfield 19, 3) := by decide +kernel
theorem dX4_oven_52 : decode cX4_oven 52 = .ok (.iload_n 1, 1) := by decide +kernel
theorem dX4_oven_53 : decode cX4_oven 53 = .ok (.iconst 0, 1) := by decide +kernel
theorem dX4_oven_54 : decode cX4_oven 54 = .ok (.invokevirtual 85, 3) := by decide +kernel
theorem dX4_oven_57 : decode cX4_oven 57 = .ok (.ireturn, 1) := by decide +kernel
theorem dX4_oven_58 : decode cX4_oven 58 = .ok (.aload_n 0, 1) := by decide +kernel
theorem dX4_oven_59 : decode cX4_oven 59 = .ok (.getfield 19, 3) := by decide +kernel
theorem dX4_oven_62 : decode cX4_oven 62 = .ok (.iload_n 1, 1) := by decide +kernel
theorem dX4_oven_63 : decode cX4_oven 63 = .ok (.iconst 1, 1) := by decide +kernel
theorem dX4_oven_64 : decode cX4_oven 64 = .ok (.invokevirtual 85, 3) := by decide +kernel
theorem dX4_oven_67 : decode cX4_oven 67 = .ok (.bipush 9, 2) := by decide +kernel
theorem dX4_oven_69 : decode cX4_oven 69 = .ok (.isub, 1) := by decide +kernel
theorem dX4_oven_70 : decode cX4_oven 70 = .ok (.ireturn, 1) := by decide +kernel
theorem dX4_oven_71 : decode cX4_oven 71 = .ok (.aload_n 0, 1) := by decide +kernel
theorem dX4_oven_72 : decode cX4_oven 72 = .ok (.getfield 29, 3) := by decide +kernel
theorem dX4_oven_75 : decode cX4_oven 75 = .ok (.aload_n 0, 1) := by decide +kernel
theorem dX4_oven_76 : decode cX4_oven 76 = .ok (.getfield 19, 3) := by decide +kernel
theorem dX4_oven_79 : decode cX4_oven 79 = .ok (.iload_n 1, 1) := by decide +kernel
theorem dX4_oven_80 : decode cX4_oven 80 = .ok (.invokevirtual 89, 3) := by decide +kernel
theorem dX4_oven_83 : decode cX4_oven 83 = .ok (.ireturn, 1) := by decide +kernel
theorem dX4_oven_84 : decode cX4_oven 84 = .ok (.aload_n 0, 1) := by decide +kernel
theorem dX4_oven_85 : decode cX4_oven 85 = .ok (.getfield 29, 3) := by decide +kernel
theorem dX4_oven_88 : decode cX4_oven 88 = .ok (.aload_n 0, 1) := by decide +kernel
theorem dX4_oven_89 : decode cX4_oven 89 = .ok (.getfield 19, 3) := by decide +kernel
theorem dX4_oven_92 : decode cX4_oven 92 = .ok (.iload_n 1, 1) := by decide +kernel
theorem dX4_oven_93 : decode cX4_oven 93 = .ok (.invokevirtual 93, 3) := by decide +kernel
theorem dX4_oven_96 : decode cX4_oven 96 = .ok (.ireturn, 1) := by decide +kernel
theorem dX4_oven_97 : decode cX4_oven 97 = .ok (.aload_n 0, 1) := by decide +kernel
theorem dX4_oven_98 : decode cX4_oven 98 = .ok (.getfield 29, 3) := by decide +kernel
theorem dX4_oven_101 : decode cX4_oven 101 = .ok (.iload_n 1, 1) := by decide +kernel
theorem dX4_oven_102 : decode cX4_oven 102 = .ok (.invokevirtual 96, 3) := by decide +kernel
theorem dX4_oven_105 : decode cX4_oven 105 = .ok (.ifCond .eq 7, 3) := by decide +kernel
theorem dX4_oven_108 : decode cX4_oven 108 = .ok (.iconst 1, 1) := by decide +kernel
theorem dX4_oven_109 : decode cX4_oven 109 = .ok (.goto 4, 3) := by decide +kernel
theorem dX4_oven_112 : decode cX4_oven 112 = .ok (.iconst 0, 1) := by decide +kernel
theorem dX4_oven_113 : decode cX4_oven 113 = .ok (.ireturn, 1) := by decide +kernel
theorem dX4_oven_114 : decode cX4_oven 114 = .ok (.ldc 84, 2) := by decide +kernel
theorem dX4_oven_116 : decode cX4_oven 116 = .ok (.ireturn, 1) := by decide +kernel
theorem dX4_dough_0 : decode cX4_dough 0 = .ok (.aload_n 0, 1) := by decide +kernel
theorem dX4_dough_1 : decode cX4_dough 1 = .ok (.getfield 19, 3) := by decide +kernel
theorem dX4_dough_4 : decode cX4_dough 4 = .ok (.iload_n 1, 1) := by decide +kernel
theorem dX4_dough_5 : decode cX4_dough 5 = .ok (.invokevirtual 99, 3) := by decide +kernel
theorem dX4_dough_8 : decode cX4_dough 8 = .ok (.ifCond .ne 5, 3) := by decide +kernel
theorem dX4_dough_11 : decode cX4_dough 11 = .ok (.iconst (-1), 1) := by decide +kernel
theorem dX4_dough_12 : decode cX4_dough 12 = .ok (.ireturn, 1) := by decide +kernel
theorem dX4_dough_13 : decode cX4_dough 13 = .ok (.iload_n 2, 1) := by decide +kernel
theorem dX4_dough_14 : decode cX4_dough 14 = .ok (.tableswitch 134 0 7 #[46, 56, 66, 76, 86, 96, 105, 114], 46) := by decide +kernel
theorem dX4_dough_60 : decode cX4_dough 60 = .ok (.aload_n 0, 1) := by decide +kernel
theorem dX4_dough_61 : decode cX4_dough 61 = .ok (.getfield 19, 3) := by decide +kernel
theorem dX4_dough_64 : decode cX4_dough 64 = .ok (.iload_n 1, 1) := by decide +kernel
theorem dX4_dough_65 : decode cX4_dough 65 = .ok (.iconst 0, 1) := by decide +kernel
theorem dX4_dough_66 : decode cX4_dough 66 = .ok (.invokevirtual 102, 3) := by decide +kernel
theorem dX4_dough_69 : decode cX4_dough 69 = .ok (.ireturn, 1) := by decide +kernel
theorem dX4_dough_70 : decode cX4_dough 70 = .ok (.aload_n 0, 1) := by decide +kernel
theorem dX4_dough_71 : decode cX4_dough 71 = .ok (.getfield 19, 3) := by decide +kernel
theorem dX4_dough_74 : decode cX4_dough 74 = .ok (.iload_n 1, 1) := by decide +kernel
theorem dX4_dough_75 : decode cX4_dough 75 = .ok (.iconst 1, 1) := by decide +kernel
theorem dX4_dough_76 : decode cX4_dough 76 = .ok (.invokevirtual 102, 3) := by decide +kernel
theorem dX4_dough_79 : decode cX4_dough 79 = .ok (.ireturn, 1) := by decide +kernel
theorem dX4_dough_80 : decode cX4_dough 80 = .ok (.aload_n 0, 1) := by decide +kernel
theorem dX4_dough_81 : decode cX4_dough 81 = .ok (.getfield 19, 3) := by decide +kernel
theorem dX4_dough_84 : decode cX4_dough 84 = .ok (.iload_n 1, 1) := by decide +kernel
theorem dX4_dough_85 : decode cX4_dough 85 = .ok (.iconst 2, 1) := by decide +kernel
theorem dX4_dough_86 : decode cX4_dough 86 = .ok (.invokevirtual 102, 3) := by decide +kernel
theorem dX4_dough_89 : decode cX4_dough 89 = .ok (.ireturn, 1) := by decide +kernel
theorem dX4_dough_90 : decode cX4_dough 90 = .ok (.aload_n 0, 1) := by decide +kernel
theorem dX4_dough_91 : decode cX4_dough 91 = .ok (.getfield 19, 3) := by decide +kernel
theorem dX4_dough_94 : decode cX4_dough 94 = .ok (.iload_n 1, 1) := by decide +kernel
theorem dX4_dough_95 : decode cX4_dough 95 = .ok (.iconst 3, 1) := by decide +kernel
theorem dX4_dough_96 : decode cX4_dough 96 = .ok (.invokevirtual 102, 3) := by decide +kernel
theorem dX4_dough_99 : decode cX4_dough 99 = .ok (.ireturn, 1) := by decide +kernel
theorem dX4_dough_100 : decode cX4_dough 100 = .ok (.aload_n 0, 1) := by decide +kernel
theorem dX4_dough_101 : decode cX4_dough 101 = .ok (.getfield 19, 3) := by decide +kernel
theorem dX4_dough_104 : decode cX4_dough 104 = .ok (.iload_n 1, 1) := by decide +kernel
theorem dX4_dough_105 : decode cX4_dough 105 = .ok (.iconst 4, 1) := by decide +kernel
theorem dX4_dough_106 : decode cX4_dough 106 = .ok (.invokevirtual 102, 3) := by decide +kernel
theorem dX4_dough_109 : decode cX4_dough 109 = .ok (.ireturn, 1) := by decide +kernel
theorem dX4_dough_110 : decode cX4_dough 110 = .ok (.aload_n 0, 1) := by decide +kernel
theorem dX4_dough_111 : decode cX4_dough 111 = .ok (.getfield 29, 3) := by decide +kernel
theorem dX4_dough_114 : decode cX4_dough 114 = .ok (.iload_n 1, 1) := by decide +kernel
theorem dX4_dough_115 : decode cX4_dough 115 = .ok (.invokevirtual 105, 3) := by decide +kernel
theorem dX4_dough_118 : decode cX4_dough 118 = .ok (.ireturn, 1) := by decide +kernel
theorem dX4_dough_119 : decode cX4_dough 119 = .ok (.aload_n 0, 1) := by decide +kernel
theorem dX4_dough_120 : decode cX4_dough 120 = .ok (.getfield 29, 3) := by decide +kernel
theorem dX4_dough_123 : decode cX4_dough 123 = .ok (.iload_n 1, 1) := by decide +kernel
theorem dX4_dough_124 : decode cX4_dough 124 = .ok (.invokevirtual 109, 3) := by decide +kernel
theorem dX4_dough_127 : decode cX4_dough 127 = .ok (.ireturn, 1) := by decide +kernel
theorem dX4_dough_128 : decode cX4_dough 128 = .ok (.aload_n 0, 1) := by decide +kernel
theorem dX4_dough_129 : decode cX4_dough 129 = .ok (.iload_n 1, 1) := by decide +kernel
theorem dX4_dough_130 : decode cX4_dough 130 = .ok (.invokevirtual 112, 3) := by decide +kernel
theorem dX4_dough_133 : decode cX4_dough 133 = .ok (.ifCond .eq 12, 3) := by decide +kernel
theorem dX4_dough_136 : decode cX4_dough 136 = .ok (.aload_n 0, 1) := by decide +kernel
theorem dX4_dough_137 : decode cX4_dough 137 = .ok (.iload_n 1, 1) := by decide +kernel
theorem dX4_dough_138 : decode cX4_dough 138 = .ok (.iconst (-1), 1) := by decide +kernel
theorem dX4_dough_139 : decode cX4_dough 139 = .ok (.invokevirtual 115, 3) := by decide +kernel
theorem dX4_dough_142 : decode cX4_dough 142 = .ok (.goto 5, 3) := by decide +kernel
theorem dX4_dough_145 : decode cX4_dough 145 = .ok (.bipush (-9), 2) := by decide +kernel
theorem dX4_dough_147 : decode cX4_dough 147 = .ok (.ireturn, 1) := by decide +kernel
theorem dX4_dough_148 : decode cX4_dough 148 = .ok (.iconst (-1), 1) := by decide +kernel
theorem dX4_dough_149 : decode cX4_dough 149 = .ok (.ireturn, 1) := by decide +kernel
theorem dX4_smell_0 : decode cX4_smell 0 = .ok (.aload_n 0, 1) := by decide +kernel
theorem dX4_smell_1 : decode cX4_smell 1 = .ok (.getfield 19, 3) := by decide +kernel
theorem dX4_smell_4 : decode cX4_smell 4 = .ok (.iload_n 1, 1) := by decide +kernel
theorem dX4_smell_5 : decode cX4_smell 5 = .ok (.invokevirtual 81, 3) := by decide +kernel
theorem dX4_smell_8 : decode cX4_smell 8 = .ok (.ifCond .eq 14, 3) := by decide +kernel
theorem dX4_smell_11 : decode cX4_smell 11 = .ok (.aload_n 0, 1) := by decide +kernel
theorem dX4_smell_12 : decode cX4_smell 12 = .ok (.getfield 19, 3) := by decide +kernel
theorem dX4_smell_15 : decode cX4_smell 15 = .ok (.iload_n 2, 1) := by decide +kernel
theorem dX4_smell_16 : decode cX4_smell 16 = .ok (.invokevirtual 99, 3) := by decide +kernel
theorem dX4_smell_19 : decode cX4_smell 19 = .ok (.ifCond .ne 6, 3) := by decide +kernel
theorem dX4_smell_22 : decode cX4_smell 22 = .ok (.ldc 84, 2) := by decide +kernel
theorem dX4_smell_24 : decode cX4_smell 24 = .ok (.ireturn, 1) := by decide +kernel
theorem dX4_smell_25 : decode cX4_smell 25 = .ok (.aload_n 0, 1) := by decide +kernel
theorem dX4_smell_26 : decode cX4_smell 26 = .ok (.iload_n 1, 1) := by decide +kernel
theorem dX4_smell_27 : decode cX4_smell 27 = .ok (.iload_n 2, 1) := by decide +kernel
theorem dX4_smell_28 : decode cX4_smell 28 = .ok (.iconst (-1), 1) := by decide +kernel
theorem dX4_smell_29 : decode cX4_smell 29 = .ok (.invokevirtual 118, 3) := by decide +kernel
theorem dX4_smell_32 : decode cX4_smell 32 = .ok (.ireturn, 1) := by decide +kernel
theorem dX4_follows_0 : decode cX4_follows 0 = .ok (.aload_n 0, 1) := by decide +kernel
theorem dX4_follows_1 : decode cX4_follows 1 = .ok (.getfield 19, 3) := by decide +kernel
theorem dX4_follows_4 : decode cX4_follows 4 = .ok (.iload_n 1, 1) := by decide +kernel
theorem dX4_follows_5 : decode cX4_follows 5 = .ok (.invokevirtual 99, 3) := by decide +kernel
theorem dX4_follows_8 : decode cX4_follows 8 = .ok (.ifCond .ne 5, 3) := by decide +kernel
theorem dX4_follows_11 : decode cX4_follows 11 = .ok (.iconst (-1), 1) := by decide +kernel
theorem dX4_follows_12 : decode cX4_follows 12 = .ok (.ireturn, 1) := by decide +kernel
theorem dX4_follows_13 : decode cX4_follows 13 = .ok (.aload_n 0, 1) := by decide +kernel
theorem dX4_follows_14 : decode cX4_follows 14 = .ok (.iload_n 1, 1) := by decide +kernel
theorem dX4_follows_15 : decode cX4_follows 15 = .ok (.iconst (-1), 1) := by decide +kernel
theorem dX4_follows_16 : decode cX4_follows 16 = .ok (.invokevirtual 115, 3) := by decide +kernel
theorem dX4_follows_19 : decode cX4_follows 19 = .ok (.istore_n 2, 1) := by decide +kernel
theorem dX4_follows_20 : decode cX4_follows 20 = .ok (.aload_n 0, 1) := by decide +kernel
theorem dX4_follows_21 : decode cX4_follows 21 = .ok (.iload_n 1, 1) := by decide +kernel
theorem dX4_follows_22 : decode cX4_follows 22 = .ok (.invokevirtual 122, 3) := by decide +kernel
theorem dX4_follows_25 : decode cX4_follows 25 = .ok (.ifCond .eq 9, 3) := by decide +kernel
theorem dX4_follows_28 : decode cX4_follows 28 = .ok (.iload_n 2, 1) := by decide +kernel
theorem dX4_follows_29 : decode cX4_follows 29 = .ok (.bipush (-9), 2) := by decide +kernel
theorem dX4_follows_31 : decode cX4_follows 31 = .ok (.if_icmp .ne 6, 3) := by decide +kernel
theorem dX4_follows_34 : decode cX4_follows 34 = .ok (.bipush (-2), 2) := by decide +kernel
theorem dX4_follows_36 : decode cX4_follows 36 = .ok (.ireturn, 1) := by decide +kernel
theorem dX4_follows_37 : decode cX4_follows 37 = .ok (.aload_n 0, 1) := by decide +kernel
theorem dX4_follows_38 : decode cX4_follows 38 = .ok (.getfield 29, 3) := by decide +kernel
theorem dX4_follows_41 : decode cX4_follows 41 = .ok (.invokevirtual 125, 3) := by decide +kernel
theorem dX4_follows_44 : decode cX4_follows 44 = .ok (.aload_n 0, 1) := by decide +kernel
theorem dX4_follows_45 : decode cX4_follows 45 = .ok (.getfield 29, 3) := by decide +kernel
theorem dX4_follows_48 : decode cX4_follows 48 = .ok (.iload_n 1, 1) := by decide +kernel
theorem dX4_follows_49 : decode cX4_follows 49 = .ok (.iload_n 2, 1) := by decide +kernel
theorem dX4_follows_50 : decode cX4_follows 50 = .ok (.invokevirtual 128, 3) := by decide +kernel
theorem dX4_follows_53 : decode cX4_follows 53 = .ok (.iload_n 2, 1) := by decide +kernel
theorem dX4_follows_54 : decode cX4_follows 54 = .ok (.ireturn, 1) := by decide +kernel
theorem dX4_puts_0 : decode cX4_puts 0 = .ok (.aload_n 0, 1) := by decide +kernel
theorem dX4_puts_1 : decode cX4_puts 1 = .ok (.getfield 19, 3) := by decide +kernel
theorem dX4_puts_4 : decode cX4_puts 4 = .ok (.iload_n 1, 1) := by decide +kernel
theorem dX4_puts_5 : decode cX4_puts 5 = .ok (.invokevirtual 99, 3) := by decide +kernel
theorem dX4_puts_8 : decode cX4_puts 8 = .ok (.ifCond .eq 14, 3) := by decide +kernel
theorem dX4_puts_11 : decode cX4_puts 11 = .ok (.aload_n 0, 1) := by decide +kernel
theorem dX4_puts_12 : decode cX4_puts 12 = .ok (.getfield 19, 3) := by decide +kernel
theorem dX4_puts_15 : decode cX4_puts 15 = .ok (.iload_n 2, 1) := by decide +kernel
theorem dX4_puts_16 : decode cX4_puts 16 = .ok (.invokevirtual 81, 3) := by decide +kernel
theorem dX4_puts_19 : decode cX4_puts 19 = .ok (.ifCond .ne 5, 3) := by decide +kernel
theorem dX4_puts_22 : decode cX4_puts 22 = .ok (.iconst (-1), 1) := by decide +kernel
theorem dX4_puts_23 : decode cX4_puts 23 = .ok (.ireturn, 1) := by decide +kernel
theorem dX4_puts_24 : decode cX4_puts 24 = .ok (.aload_n 0, 1) := by decide +kernel
theorem dX4_puts_25 : decode cX4_puts 25 = .ok (.iload_n 1, 1) := by decide +kernel
theorem dX4_puts_26 : decode cX4_puts 26 = .ok (.invokevirtual 122, 3) := by decide +kernel
theorem dX4_puts_29 : decode cX4_puts 29 = .ok (.ifCond .eq 14, 3) := by decide +kernel
theorem dX4_puts_32 : decode cX4_puts 32 = .ok (.aload_n 0, 1) := by decide +kernel
theorem dX4_puts_33 : decode cX4_puts 33 = .ok (.getfield 29, 3) := by decide +kernel
theorem dX4_puts_36 : decode cX4_puts 36 = .ok (.iload_n 2, 1) := by decide +kernel
theorem dX4_puts_37 : decode cX4_puts 37 = .ok (.invokevirtual 96, 3) := by decide +kernel
theorem dX4_puts_40 : decode cX4_puts 40 = .ok (.ifCond .eq 6, 3) := by decide +kernel
theorem dX4_puts_43 : decode cX4_puts 43 = .ok (.bipush (-2), 2) := by decide +kernel
theorem dX4_puts_45 : decode cX4_puts 45 = .ok (.ireturn, 1) := by decide +kernel
theorem dX4_puts_46 : decode cX4_puts 46 = .ok (.aload_n 0, 1) := by decide +kernel
theorem dX4_puts_47 : decode cX4_puts 47 = .ok (.getfield 29, 3) := by decide +kernel
theorem dX4_puts_50 : decode cX4_puts 50 = .ok (.invokevirtual 125, 3) := by decide +kernel
theorem dX4_puts_53 : decode cX4_puts 53 = .ok (.aload_n 0, 1) := by decide +kernel
theorem dX4_puts_54 : decode cX4_puts 54 = .ok (.getfield 29, 3) := by decide +kernel
theorem dX4_puts_57 : decode cX4_puts 57 = .ok (.iload_n 1, 1) := by decide +kernel
theorem dX4_puts_58 : decode cX4_puts 58 = .ok (.iload_n 2, 1) := by decide +kernel
theorem dX4_puts_59 : decode cX4_puts 59 = .ok (.invokevirtual 128, 3) := by decide +kernel
theorem dX4_puts_62 : decode cX4_puts 62 = .ok (.aload_n 0, 1) := by decide +kernel
theorem dX4_puts_63 : decode cX4_puts 63 = .ok (.getfield 29, 3) := by decide +kernel
theorem dX4_puts_66 : decode cX4_puts 66 = .ok (.aload_n 0, 1) := by decide +kernel
theorem dX4_puts_67 : decode cX4_puts 67 = .ok (.getfield 19, 3) := by decide +kernel
theorem dX4_puts_70 : decode cX4_puts 70 = .ok (.iload_n 2, 1) := by decide +kernel
theorem dX4_puts_71 : decode cX4_puts 71 = .ok (.invokevirtual 89, 3) := by decide +kernel
theorem dX4_puts_74 : decode cX4_puts 74 = .ok (.invokestatic 132, 3) := by decide +kernel
theorem dX4_puts_77 : decode cX4_puts 77 = .ok (.ireturn, 1) := by decide +kernel
theorem dX4_minutes_0 : decode cX4_minutes 0 = .ok (.iload_n 1, 1) := by decide +kernel
theorem dX4_minutes_1 : decode cX4_minutes 1 = .ok (.iconst 1, 1) := by decide +kernel
theorem dX4_minutes_2 : decode cX4_minutes 2 = .ok (.if_icmp .lt 9, 3) := by decide +kernel
theorem dX4_minutes_5 : decode cX4_minutes 5 = .ok (.iload_n 1, 1) := by decide +kernel
theorem dX4_minutes_6 : decode cX4_minutes 6 = .ok (.bipush 60, 2) := by decide +kernel
theorem dX4_minutes_8 : decode cX4_minutes 8 = .ok (.if_icmp .le 5, 3) := by decide +kernel
theorem dX4_minutes_11 : decode cX4_minutes 11 = .ok (.iconst (-1), 1) := by decide +kernel
theorem dX4_minutes_12 : decode cX4_minutes 12 = .ok (.ireturn, 1) := by decide +kernel
theorem dX4_minutes_13 : decode cX4_minutes 13 = .ok (.aload_n 0, 1) := by decide +kernel
theorem dX4_minutes_14 : decode cX4_minutes 14 = .ok (.getfield 29, 3) := by decide +kernel
theorem dX4_minutes_17 : decode cX4_minutes 17 = .ok (.invokevirtual 137, 3) := by decide +kernel
theorem dX4_minutes_20 : decode cX4_minutes 20 = .ok (.iload_n 1, 1) := by decide +kernel
theorem dX4_minutes_21 : decode cX4_minutes 21 = .ok (.iadd, 1) := by decide +kernel
theorem dX4_minutes_22 : decode cX4_minutes 22 = .ok (.sipush 999, 3) := by decide +kernel
theorem dX4_minutes_25 : decode cX4_minutes 25 = .ok (.if_icmp .le 6, 3) := by decide +kernel
theorem dX4_minutes_28 : decode cX4_minutes 28 = .ok (.bipush (-2), 2) := by decide +kernel
theorem dX4_minutes_30 : decode cX4_minutes 30 = .ok (.ireturn, 1) := by decide +kernel
theorem dX4_minutes_31 : decode cX4_minutes 31 = .ok (.aload_n 0, 1) := by decide +kernel
theorem dX4_minutes_32 : decode cX4_minutes 32 = .ok (.getfield 29, 3) := by decide +kernel
theorem dX4_minutes_35 : decode cX4_minutes 35 = .ok (.aload_n 0, 1) := by decide +kernel
theorem dX4_minutes_36 : decode cX4_minutes 36 = .ok (.getfield 19, 3) := by decide +kernel
theorem dX4_minutes_39 : decode cX4_minutes 39 = .ok (.bipush (-5), 2) := by decide +kernel
theorem dX4_minutes_41 : decode cX4_minutes 41 = .ok (.invokevirtual 89, 3) := by decide +kernel
theorem dX4_minutes_44 : decode cX4_minutes 44 = .ok (.invokestatic 132, 3) := by decide +kernel
theorem dX4_minutes_47 : decode cX4_minutes 47 = .ok (.istore_n 2, 1) := by decide +kernel
theorem dX4_minutes_48 : decode cX4_minutes 48 = .ok (.aload_n 0, 1) := by decide +kernel
theorem dX4_minutes_49 : decode cX4_minutes 49 = .ok (.getfield 29, 3) := by decide +kernel
theorem dX4_minutes_52 : decode cX4_minutes 52 = .ok (.invokevirtual 125, 3) := by decide +kernel
theorem dX4_minutes_55 : decode cX4_minutes 55 = .ok (.iconst 0, 1) := by decide +kernel
theorem dX4_minutes_56 : decode cX4_minutes 56 = .ok (.istore_n 3, 1) := by decide +kernel
theorem dX4_minutes_57 : decode cX4_minutes 57 = .ok (.iload_n 3, 1) := by decide +kernel
theorem dX4_minutes_58 : decode cX4_minutes 58 = .ok (.iload_n 1, 1) := by decide +kernel
theorem dX4_minutes_59 : decode cX4_minutes 59 = .ok (.if_icmp .ge 20, 3) := by decide +kernel
theorem dX4_minutes_62 : decode cX4_minutes 62 = .ok (.aload_n 0, 1) := by decide +kernel
theorem dX4_minutes_63 : decode cX4_minutes 63 = .ok (.getfield 29, 3) := by decide +kernel
theorem dX4_minutes_66 : decode cX4_minutes 66 = .ok (.aload_n 0, 1) := by decide +kernel
theorem dX4_minutes_67 : decode cX4_minutes 67 = .ok (.getfield 19, 3) := by decide +kernel
theorem dX4_minutes_70 : decode cX4_minutes 70 = .ok (.invokevirtual 140, 3) := by decide +kernel
theorem dX4_minutes_73 : decode cX4_minutes 73 = .ok (.iinc 3 1, 3) := by decide +kernel
theorem dX4_minutes_76 : decode cX4_minutes 76 = .ok (.goto (-19), 3) := by decide +kernel
theorem dX4_minutes_79 : decode cX4_minutes 79 = .ok (.aload_n 0, 1) := by decide +kernel
theorem dX4_minutes_80 : decode cX4_minutes 80 = .ok (.getfield 29, 3) := by decide +kernel
theorem dX4_minutes_83 : decode cX4_minutes 83 = .ok (.aload_n 0, 1) := by decide +kernel
theorem dX4_minutes_84 : decode cX4_minutes 84 = .ok (.getfield 19, 3) := by decide +kernel
theorem dX4_minutes_87 : decode cX4_minutes 87 = .ok (.bipush (-5), 2) := by decide +kernel
theorem dX4_minutes_89 : decode cX4_minutes 89 = .ok (.invokevirtual 89, 3) := by decide +kernel
theorem dX4_minutes_92 : decode cX4_minutes 92 = .ok (.invokestatic 132, 3) := by decide +kernel
theorem dX4_minutes_95 : decode cX4_minutes 95 = .ok (.iload_n 2, 1) := by decide +kernel
theorem dX4_minutes_96 : decode cX4_minutes 96 = .ok (.isub, 1) := by decide +kernel
theorem dX4_minutes_97 : decode cX4_minutes 97 = .ok (.ireturn, 1) := by decide +kernel
theorem dX4_shuts_0 : decode cX4_shuts 0 = .ok (.aload_n 0, 1) := by decide +kernel
theorem dX4_shuts_1 : decode cX4_shuts 1 = .ok (.getfield 19, 3) := by decide +kernel
theorem dX4_shuts_4 : decode cX4_shuts 4 = .ok (.iload_n 1, 1) := by decide +kernel
theorem dX4_shuts_5 : decode cX4_shuts 5 = .ok (.invokevirtual 81, 3) := by decide +kernel
theorem dX4_shuts_8 : decode cX4_shuts 8 = .ok (.ifCond .eq 12, 3) := by decide +kernel
theorem dX4_shuts_11 : decode cX4_shuts 11 = .ok (.iload_n 2, 1) := by decide +kernel
theorem dX4_shuts_12 : decode cX4_shuts 12 = .ok (.ifCond .eq 10, 3) := by decide +kernel
theorem dX4_shuts_15 : decode cX4_shuts 15 = .ok (.iload_n 2, 1) := by decide +kernel
theorem dX4_shuts_16 : decode cX4_shuts 16 = .ok (.iconst 1, 1) := by decide +kernel
theorem dX4_shuts_17 : decode cX4_shuts 17 = .ok (.if_icmp .eq 5, 3) := by decide +kernel
theorem dX4_shuts_20 : decode cX4_shuts 20 = .ok (.iconst (-1), 1) := by decide +kernel
theorem dX4_shuts_21 : decode cX4_shuts 21 = .ok (.ireturn, 1) := by decide +kernel
theorem dX4_shuts_22 : decode cX4_shuts 22 = .ok (.aload_n 0, 1) := by decide +kernel
theorem dX4_shuts_23 : decode cX4_shuts 23 = .ok (.getfield 29, 3) := by decide +kernel
theorem dX4_shuts_26 : decode cX4_shuts 26 = .ok (.iload_n 1, 1) := by decide +kernel
theorem dX4_shuts_27 : decode cX4_shuts 27 = .ok (.invokevirtual 96, 3) := by decide +kernel
theorem dX4_shuts_30 : decode cX4_shuts 30 = .ok (.iload_n 2, 1) := by decide +kernel
theorem dX4_shuts_31 : decode cX4_shuts 31 = .ok (.iconst 1, 1) := by decide +kernel
theorem dX4_shuts_32 : decode cX4_shuts 32 = .ok (.if_icmp .ne 7, 3) := by decide +kernel
theorem dX4_shuts_35 : decode cX4_shuts 35 = .ok (.iconst 1, 1) := by decide +kernel
theorem dX4_shuts_36 : decode cX4_shuts 36 = .ok (.goto 4, 3) := by decide +kernel
theorem dX4_shuts_39 : decode cX4_shuts 39 = .ok (.iconst 0, 1) := by decide +kernel
theorem dX4_shuts_40 : decode cX4_shuts 40 = .ok (.if_icmp .ne 6, 3) := by decide +kernel
theorem dX4_shuts_43 : decode cX4_shuts 43 = .ok (.bipush (-2), 2) := by decide +kernel
theorem dX4_shuts_45 : decode cX4_shuts 45 = .ok (.ireturn, 1) := by decide +kernel
theorem dX4_shuts_46 : decode cX4_shuts 46 = .ok (.aload_n 0, 1) := by decide +kernel
theorem dX4_shuts_47 : decode cX4_shuts 47 = .ok (.getfield 29, 3) := by decide +kernel
theorem dX4_shuts_50 : decode cX4_shuts 50 = .ok (.invokevirtual 125, 3) := by decide +kernel
theorem dX4_shuts_53 : decode cX4_shuts 53 = .ok (.aload_n 0, 1) := by decide +kernel
theorem dX4_shuts_54 : decode cX4_shuts 54 = .ok (.getfield 29, 3) := by decide +kernel
theorem dX4_shuts_57 : decode cX4_shuts 57 = .ok (.iload_n 1, 1) := by decide +kernel
theorem dX4_shuts_58 : decode cX4_shuts 58 = .ok (.invokevirtual 144, 3) := by decide +kernel
theorem dX4_shuts_61 : decode cX4_shuts 61 = .ok (.aload_n 0, 1) := by decide +kernel
theorem dX4_shuts_62 : decode cX4_shuts 62 = .ok (.getfield 29, 3) := by decide +kernel
theorem dX4_shuts_65 : decode cX4_shuts 65 = .ok (.invokevirtual 148, 3) := by decide +kernel
theorem dX4_shuts_68 : decode cX4_shuts 68 = .ok (.invokestatic 132, 3) := by decide +kernel
theorem dX4_shuts_71 : decode cX4_shuts 71 = .ok (.ireturn, 1) := by decide +kernel
theorem dX4_undo_0 : decode cX4_undo 0 = .ok (.aload_n 0, 1) := by decide +kernel
theorem dX4_undo_1 : decode cX4_undo 1 = .ok (.getfield 29, 3) := by decide +kernel
theorem dX4_undo_4 : decode cX4_undo 4 = .ok (.invokevirtual 151, 3) := by decide +kernel
theorem dX4_undo_7 : decode cX4_undo 7 = .ok (.ifCond .eq 13, 3) := by decide +kernel
theorem dX4_undo_10 : decode cX4_undo 10 = .ok (.aload_n 0, 1) := by decide +kernel
theorem dX4_undo_11 : decode cX4_undo 11 = .ok (.getfield 29, 3) := by decide +kernel
theorem dX4_undo_14 : decode cX4_undo 14 = .ok (.invokevirtual 155, 3) := by decide +kernel
theorem dX4_undo_17 : decode cX4_undo 17 = .ok (.goto 5, 3) := by decide +kernel
theorem dX4_undo_20 : decode cX4_undo 20 = .ok (.bipush (-2), 2) := by decide +kernel
theorem dX4_undo_22 : decode cX4_undo 22 = .ok (.ireturn, 1) := by decide +kernel
theorem dX4_now_0 : decode cX4_now 0 = .ok (.iload_n 1, 1) := by decide +kernel
theorem dX4_now_1 : decode cX4_now 1 = .ok (.tableswitch 84 0 4 #[35, 43, 57, 71, 76], 35) := by decide +kernel
theorem dX4_now_36 : decode cX4_now 36 = .ok (.aload_n 0, 1) := by decide +kernel
theorem dX4_now_37 : decode cX4_now 37 = .ok (.getfield 29, 3) := by decide +kernel
theorem dX4_now_40 : decode cX4_now 40 = .ok (.invokevirtual 137, 3) := by decide +kernel
theorem dX4_now_43 : decode cX4_now 43 = .ok (.ireturn, 1) := by decide +kernel
theorem dX4_now_44 : decode cX4_now 44 = .ok (.aload_n 0, 1) := by decide +kernel
theorem dX4_now_45 : decode cX4_now 45 = .ok (.getfield 29, 3) := by decide +kernel
theorem dX4_now_48 : decode cX4_now 48 = .ok (.aload_n 0, 1) := by decide +kernel
theorem dX4_now_49 : decode cX4_now 49 = .ok (.getfield 19, 3) := by decide +kernel
theorem dX4_now_52 : decode cX4_now 52 = .ok (.bipush (-9), 2) := by decide +kernel
theorem dX4_now_54 : decode cX4_now 54 = .ok (.invokevirtual 89, 3) := by decide +kernel
theorem dX4_now_57 : decode cX4_now 57 = .ok (.ireturn, 1) := by decide +kernel
theorem dX4_now_58 : decode cX4_now 58 = .ok (.aload_n 0, 1) := by decide +kernel
theorem dX4_now_59 : decode cX4_now 59 = .ok (.getfield 29, 3) := by decide +kernel
theorem dX4_now_62 : decode cX4_now 62 = .ok (.aload_n 0, 1) := by decide +kernel
theorem dX4_now_63 : decode cX4_now 63 = .ok (.getfield 19, 3) := by decide +kernel
theorem dX4_now_66 : decode cX4_now 66 = .ok (.bipush (-5), 2) := by decide +kernel
theorem dX4_now_68 : decode cX4_now 68 = .ok (.invokevirtual 89, 3) := by decide +kernel
theorem dX4_now_71 : decode cX4_now 71 = .ok (.ireturn, 1) := by decide +kernel
theorem dX4_now_72 : decode cX4_now 72 = .ok (.aload_n 0, 1) := by decide +kernel
theorem dX4_now_73 : decode cX4_now 73 = .ok (.invokevirtual 158, 3) := by decide +kernel
theorem dX4_now_76 : decode cX4_now 76 = .ok (.ireturn, 1) := by decide +kernel
theorem dX4_now_77 : decode cX4_now 77 = .ok (.aload_n 0, 1) := by decide +kernel
theorem dX4_now_78 : decode cX4_now 78 = .ok (.getfield 29, 3) := by decide +kernel
theorem dX4_now_81 : decode cX4_now 81 = .ok (.invokevirtual 148, 3) := by decide +kernel
theorem dX4_now_84 : decode cX4_now 84 = .ok (.ireturn, 1) := by decide +kernel
theorem dX4_now_85 : decode cX4_now 85 = .ok (.iconst (-1), 1) := by decide +kernel
theorem dX4_now_86 : decode cX4_now 86 = .ok (.ireturn, 1) := by decide +kernel
theorem dX4_when_0 : decode cX4_when 0 = .ok (.aload_n 0, 1) := by decide +kernel
theorem dX4_when_1 : decode cX4_when 1 = .ok (.getfield 19, 3) := by decide +kernel
theorem dX4_when_4 : decode cX4_when 4 = .ok (.iload_n 1, 1) := by decide +kernel
theorem dX4_when_5 : decode cX4_when 5 = .ok (.invokevirtual 99, 3) := by decide +kernel
theorem dX4_when_8 : decode cX4_when 8 = .ok (.ifCond .ne 5, 3) := by decide +kernel
theorem dX4_when_11 : decode cX4_when 11 = .ok (.iconst (-1), 1) := by decide +kernel
theorem dX4_when_12 : decode cX4_when 12 = .ok (.ireturn, 1) := by decide +kernel
theorem dX4_when_13 : decode cX4_when 13 = .ok (.aload_n 0, 1) := by decide +kernel
theorem dX4_when_14 : decode cX4_when 14 = .ok (.getfield 19, 3) := by decide +kernel
theorem dX4_when_17 : decode cX4_when 17 = .ok (.aload_n 0, 1) := by decide +kernel
theorem dX4_when_18 : decode cX4_when 18 = .ok (.getfield 29, 3) := by decide +kernel
theorem dX4_when_21 : decode cX4_when 21 = .ok (.iload_n 1, 1) := by decide +kernel
theorem dX4_when_22 : decode cX4_when 22 = .ok (.invokevirtual 105, 3) := by decide +kernel
theorem dX4_when_25 : decode cX4_when 25 = .ok (.invokevirtual 81, 3) := by decide +kernel
theorem dX4_when_28 : decode cX4_when 28 = .ok (.ifCond .ne 6, 3) := by decide +kernel
theorem dX4_when_31 : decode cX4_when 31 = .ok (.bipush (-2), 2) := by decide +kernel
theorem dX4_when_33 : decode cX4_when 33 = .ok (.ireturn, 1) := by decide +kernel
theorem dX4_when_34 : decode cX4_when 34 = .ok (.aload_n 0, 1) := by decide +kernel
theorem dX4_when_35 : decode cX4_when 35 = .ok (.getfield 33, 3) := by decide +kernel
theorem dX4_when_38 : decode cX4_when 38 = .ok (.aload_n 0, 1) := by decide +kernel
theorem dX4_when_39 : decode cX4_when 39 = .ok (.getfield 29, 3) := by decide +kernel
theorem dX4_when_42 : decode cX4_when 42 = .ok (.invokevirtual 161, 3) := by decide +kernel
theorem dX4_when_45 : decode cX4_when 45 = .ok (.iconst 0, 1) := by decide +kernel
theorem dX4_when_46 : decode cX4_when 46 = .ok (.istore_n 2, 1) := by decide +kernel
theorem dX4_when_47 : decode cX4_when 47 = .ok (.iload_n 2, 1) := by decide +kernel
theorem dX4_when_48 : decode cX4_when 48 = .ok (.sipush 200, 3) := by decide +kernel
theorem dX4_when_51 : decode cX4_when 51 = .ok (.if_icmp .ge 41, 3) := by decide +kernel
theorem dX4_when_54 : decode cX4_when 54 = .ok (.aload_n 0, 1) := by decide +kernel
theorem dX4_when_55 : decode cX4_when 55 = .ok (.getfield 33, 3) := by decide +kernel
theorem dX4_when_58 : decode cX4_when 58 = .ok (.aload_n 0, 1) := by decide +kernel
theorem dX4_when_59 : decode cX4_when 59 = .ok (.getfield 19, 3) := by decide +kernel
theorem dX4_when_62 : decode cX4_when 62 = .ok (.invokevirtual 140, 3) := by decide +kernel
theorem dX4_when_65 : decode cX4_when 65 = .ok (.aload_n 0, 1) := by decide +kernel
theorem dX4_when_66 : decode cX4_when 66 = .ok (.getfield 33, 3) := by decide +kernel
theorem dX4_when_69 : decode cX4_when 69 = .ok (.iload_n 1, 1) := by decide +kernel
theorem dX4_when_70 : decode cX4_when 70 = .ok (.invokevirtual 105, 3) := by decide +kernel
theorem dX4_when_73 : decode cX4_when 73 = .ok (.bipush (-5), 2) := by decide +kernel
theorem dX4_when_75 : decode cX4_when 75 = .ok (.if_icmp .ne 11, 3) := by decide +kernel
theorem dX4_when_78 : decode cX4_when 78 = .ok (.aload_n 0, 1) := by decide +kernel
theorem dX4_when_79 : decode cX4_when 79 = .ok (.getfield 33, 3) := by decide +kernel
theorem dX4_when_82 : decode cX4_when 82 = .ok (.invokevirtual 137, 3) := by decide +kernel
theorem dX4_when_85 : decode cX4_when 85 = .ok (.ireturn, 1) := by decide +kernel
theorem dX4_when_86 : decode cX4_when 86 = .ok (.iinc 2 1, 3) := by decide +kernel
theorem dX4_when_89 : decode cX4_when 89 = .ok (.goto (-42), 3) := by decide +kernel
theorem dX4_when_92 : decode cX4_when 92 = .ok (.bipush (-9), 2) := by decide +kernel
theorem dX4_when_94 : decode cX4_when 94 = .ok (.ireturn, 1) := by decide +kernel
theorem dX4_moved_0 : decode cX4_moved 0 = .ok (.aload_n 0, 1) := by decide +kernel
theorem dX4_moved_1 : decode cX4_moved 1 = .ok (.getfield 19, 3) := by decide +kernel
theorem dX4_moved_4 : decode cX4_moved 4 = .ok (.iload_n 1, 1) := by decide +kernel
theorem dX4_moved_5 : decode cX4_moved 5 = .ok (.invokevirtual 81, 3) := by decide +kernel
theorem dX4_moved_8 : decode cX4_moved 8 = .ok (.ifCond .ne 5, 3) := by decide +kernel
theorem dX4_moved_11 : decode cX4_moved 11 = .ok (.iconst (-1), 1) := by decide +kernel
theorem dX4_moved_12 : decode cX4_moved 12 = .ok (.ireturn, 1) := by decide +kernel
theorem dX4_moved_13 : decode cX4_moved 13 = .ok (.aload_n 0, 1) := by decide +kernel
theorem dX4_moved_14 : decode cX4_moved 14 = .ok (.getfield 29, 3) := by decide +kernel
theorem dX4_moved_17 : decode cX4_moved 17 = .ok (.iload_n 1, 1) := by decide +kernel
theorem dX4_moved_18 : decode cX4_moved 18 = .ok (.invokevirtual 96, 3) := by decide +kernel
theorem dX4_moved_21 : decode cX4_moved 21 = .ok (.ifCond .eq 6, 3) := by decide +kernel
theorem dX4_moved_24 : decode cX4_moved 24 = .ok (.bipush (-2), 2) := by decide +kernel
theorem dX4_moved_26 : decode cX4_moved 26 = .ok (.ireturn, 1) := by decide +kernel
theorem dX4_moved_27 : decode cX4_moved 27 = .ok (.iconst 0, 1) := by decide +kernel
theorem dX4_moved_28 : decode cX4_moved 28 = .ok (.istore_n 2, 1) := by decide +kernel
theorem dX4_moved_29 : decode cX4_moved 29 = .ok (.iconst 0, 1) := by decide +kernel
theorem dX4_moved_30 : decode cX4_moved 30 = .ok (.istore_n 3, 1) := by decide +kernel
theorem dX4_moved_31 : decode cX4_moved 31 = .ok (.iload_n 3, 1) := by decide +kernel
theorem dX4_moved_32 : decode cX4_moved 32 = .ok (.aload_n 0, 1) := by decide +kernel
theorem dX4_moved_33 : decode cX4_moved 33 = .ok (.getfield 19, 3) := by decide +kernel
theorem dX4_moved_36 : decode cX4_moved 36 = .ok (.invokevirtual 165, 3) := by decide +kernel
theorem dX4_moved_39 : decode cX4_moved 39 = .ok (.if_icmp .ge 33, 3) := by decide +kernel
theorem dX4_moved_42 : decode cX4_moved 42 = .ok (.aload_n 0, 1) := by decide +kernel
theorem dX4_moved_43 : decode cX4_moved 43 = .ok (.iload_n 3, 1) := by decide +kernel
theorem dX4_moved_44 : decode cX4_moved 44 = .ok (.invokevirtual 112, 3) := by decide +kernel
theorem dX4_moved_47 : decode cX4_moved 47 = .ok (.ifCond .eq 19, 3) := by decide +kernel
theorem dX4_moved_50 : decode cX4_moved 50 = .ok (.aload_n 0, 1) := by decide +kernel
theorem dX4_moved_51 : decode cX4_moved 51 = .ok (.iload_n 3, 1) := by decide +kernel
theorem dX4_moved_52 : decode cX4_moved 52 = .ok (.iconst (-1), 1) := by decide +kernel
theorem dX4_moved_53 : decode cX4_moved 53 = .ok (.invokevirtual 115, 3) := by decide +kernel
theorem dX4_moved_56 : decode cX4_moved 56 = .ok (.iload_n 1, 1) := by decide +kernel
theorem dX4_moved_57 : decode cX4_moved 57 = .ok (.if_icmp .ne 9, 3) := by decide +kernel
theorem dX4_moved_60 : decode cX4_moved 60 = .ok (.iload_n 2, 1) := by decide +kernel
theorem dX4_moved_61 : decode cX4_moved 61 = .ok (.iconst 1, 1) := by decide +kernel
theorem dX4_moved_62 : decode cX4_moved 62 = .ok (.iload_n 3, 1) := by decide +kernel
theorem dX4_moved_63 : decode cX4_moved 63 = .ok (.ishl, 1) := by decide +kernel
theorem dX4_moved_64 : decode cX4_moved 64 = .ok (.ior, 1) := by decide +kernel
theorem dX4_moved_65 : decode cX4_moved 65 = .ok (.istore_n 2, 1) := by decide +kernel
theorem dX4_moved_66 : decode cX4_moved 66 = .ok (.iinc 3 1, 3) := by decide +kernel
theorem dX4_moved_69 : decode cX4_moved 69 = .ok (.goto (-38), 3) := by decide +kernel
theorem dX4_moved_72 : decode cX4_moved 72 = .ok (.iload_n 2, 1) := by decide +kernel
theorem dX4_moved_73 : decode cX4_moved 73 = .ok (.ireturn, 1) := by decide +kernel
theorem dX4_order_0 : decode cX4_order 0 = .ok (.aload_n 0, 1) := by decide +kernel
theorem dX4_order_1 : decode cX4_order 1 = .ok (.getfield 19, 3) := by decide +kernel
theorem dX4_order_4 : decode cX4_order 4 = .ok (.iload_n 1, 1) := by decide +kernel
theorem dX4_order_5 : decode cX4_order 5 = .ok (.invokevirtual 81, 3) := by decide +kernel
theorem dX4_order_8 : decode cX4_order 8 = .ok (.ifCond .eq 26, 3) := by decide +kernel
theorem dX4_order_11 : decode cX4_order 11 = .ok (.iload_n 2, 1) := by decide +kernel
theorem dX4_order_12 : decode cX4_order 12 = .ok (.ifCond .lt 22, 3) := by decide +kernel
theorem dX4_order_15 : decode cX4_order 15 = .ok (.iload_n 2, 1) := by decide +kernel
theorem dX4_order_16 : decode cX4_order 16 = .ok (.sipush 999, 3) := by decide +kernel
theorem dX4_order_19 : decode cX4_order 19 = .ok (.if_icmp .gt 15, 3) := by decide +kernel
theorem dX4_order_22 : decode cX4_order 22 = .ok (.iload_n 3, 1) := by decide +kernel
theorem dX4_order_23 : decode cX4_order 23 = .ok (.bipush (-2), 2) := by decide +kernel
theorem dX4_order_25 : decode cX4_order 25 = .ok (.if_icmp .lt 9, 3) := by decide +kernel
theorem dX4_order_28 : decode cX4_order 28 = .ok (.iload_n 3, 1) := by decide +kernel
theorem dX4_order_29 : decode cX4_order 29 = .ok (.bipush 6, 2) := by decide +kernel
theorem dX4_order_31 : decode cX4_order 31 = .ok (.if_icmp .lt 5, 3) := by decide +kernel
theorem dX4_order_34 : decode cX4_order 34 = .ok (.iconst (-1), 1) := by decide +kernel
theorem dX4_order_35 : decode cX4_order 35 = .ok (.ireturn, 1) := by decide +kernel
theorem dX4_order_36 : decode cX4_order 36 = .ok (.aload_n 0, 1) := by decide +kernel
theorem dX4_order_37 : decode cX4_order 37 = .ok (.getfield 52, 3) := by decide +kernel
theorem dX4_order_40 : decode cX4_order 40 = .ok (.aload_n 0, 1) := by decide +kernel
theorem dX4_order_41 : decode cX4_order 41 = .ok (.getfield 19, 3) := by decide +kernel
theorem dX4_order_44 : decode cX4_order 44 = .ok (.aload_n 0, 1) := by decide +kernel
theorem dX4_order_45 : decode cX4_order 45 = .ok (.getfield 29, 3) := by decide +kernel
theorem dX4_order_48 : decode cX4_order 48 = .ok (.iload_n 1, 1) := by decide +kernel
theorem dX4_order_49 : decode cX4_order 49 = .ok (.iload_n 2, 1) := by decide +kernel
theorem dX4_order_50 : decode cX4_order 50 = .ok (.invokevirtual 168, 3) := by decide +kernel
theorem dX4_order_53 : decode cX4_order 53 = .ok (.iload_n 3, 1) := by decide +kernel
theorem dX4_order_54 : decode cX4_order 54 = .ok (.iconst (-1), 1) := by decide +kernel
theorem dX4_order_55 : decode cX4_order 55 = .ok (.if_icmp .ne 11, 3) := by decide +kernel
theorem dX4_order_58 : decode cX4_order 58 = .ok (.aload_n 0, 1) := by decide +kernel
theorem dX4_order_59 : decode cX4_order 59 = .ok (.getfield 52, 3) := by decide +kernel
theorem dX4_order_62 : decode cX4_order 62 = .ok (.invokevirtual 172, 3) := by decide +kernel
theorem dX4_order_65 : decode cX4_order 65 = .ok (.ireturn, 1) := by decide +kernel
theorem dX4_order_66 : decode cX4_order 66 = .ok (.iload_n 3, 1) := by decide +kernel
theorem dX4_order_67 : decode cX4_order 67 = .ok (.bipush (-2), 2) := by decide +kernel
theorem dX4_order_69 : decode cX4_order 69 = .ok (.if_icmp .ne 13, 3) := by decide +kernel
theorem dX4_order_72 : decode cX4_order 72 = .ok (.aload_n 0, 1) := by decide +kernel
theorem dX4_order_73 : decode cX4_order 73 = .ok (.getfield 52, 3) := by decide +kernel
theorem dX4_order_76 : decode cX4_order 76 = .ok (.invokevirtual 175, 3) := by decide +kernel
theorem dX4_order_79 : decode cX4_order 79 = .ok (.goto 11, 3) := by decide +kernel
theorem dX4_order_82 : decode cX4_order 82 = .ok (.aload_n 0, 1) := by decide +kernel
theorem dX4_order_83 : decode cX4_order 83 = .ok (.getfield 52, 3) := by decide +kernel
theorem dX4_order_86 : decode cX4_order 86 = .ok (.iload_n 3, 1) := by decide +kernel
theorem dX4_order_87 : decode cX4_order 87 = .ok (.invokevirtual 178, 3) := by decide +kernel
theorem dX4_order_90 : decode cX4_order 90 = .ok (.ireturn, 1) := by decide +kernel
theorem dX4_fire_0 : decode cX4_fire 0 = .ok (.aload_n 0, 1) := by decide +kernel
theorem dX4_fire_1 : decode cX4_fire 1 = .ok (.getfield 19, 3) := by decide +kernel
theorem dX4_fire_4 : decode cX4_fire 4 = .ok (.iload_n 1, 1) := by decide +kernel
theorem dX4_fire_5 : decode cX4_fire 5 = .ok (.invokevirtual 99, 3) := by decide +kernel
theorem dX4_fire_8 : decode cX4_fire 8 = .ok (.ifCond .eq 14, 3) := by decide +kernel
theorem dX4_fire_11 : decode cX4_fire 11 = .ok (.iload_n 2, 1) := by decide +kernel
theorem dX4_fire_12 : decode cX4_fire 12 = .ok (.iconst 1, 1) := by decide +kernel
theorem dX4_fire_13 : decode cX4_fire 13 = .ok (.if_icmp .lt 9, 3) := by decide +kernel
theorem dX4_fire_16 : decode cX4_fire 16 = .ok (.iload_n 2, 1) := by decide +kernel
theorem dX4_fire_17 : decode cX4_fire 17 = .ok (.bipush 99, 2) := by decide +kernel
theorem dX4_fire_19 : decode cX4_fire 19 = .ok (.if_icmp .le 5, 3) := by decide +kernel
theorem dX4_fire_22 : decode cX4_fire 22 = .ok (.iconst (-1), 1) := by decide +kernel
theorem dX4_fire_23 : decode cX4_fire 23 = .ok (.ireturn, 1) := by decide +kernel
theorem dX4_fire_24 : decode cX4_fire 24 = .ok (.aload_n 0, 1) := by decide +kernel
theorem dX4_fire_25 : decode cX4_fire 25 = .ok (.getfield 19, 3) := by decide +kernel
theorem dX4_fire_28 : decode cX4_fire 28 = .ok (.iload_n 1, 1) := by decide +kernel
theorem dX4_fire_29 : decode cX4_fire 29 = .ok (.iconst 2, 1) := by decide +kernel
theorem dX4_fire_30 : decode cX4_fire 30 = .ok (.invokevirtual 102, 3) := by decide +kernel
theorem dX4_fire_33 : decode cX4_fire 33 = .ok (.iload_n 2, 1) := by decide +kernel
theorem dX4_fire_34 : decode cX4_fire 34 = .ok (.invokestatic 181, 3) := by decide +kernel
theorem dX4_fire_37 : decode cX4_fire 37 = .ok (.istore_n 3, 1) := by decide +kernel
theorem dX4_fire_38 : decode cX4_fire 38 = .ok (.iload_n 3, 1) := by decide +kernel
theorem dX4_fire_39 : decode cX4_fire 39 = .ok (.bipush 10, 2) := by decide +kernel
theorem dX4_fire_41 : decode cX4_fire 41 = .ok (.imul, 1) := by decide +kernel
theorem dX4_fire_42 : decode cX4_fire 42 = .ok (.bipush 9, 2) := by decide +kernel
theorem dX4_fire_44 : decode cX4_fire 44 = .ok (.invokestatic 181, 3) := by decide +kernel
theorem dX4_fire_47 : decode cX4_fire 47 = .ok (.ireturn, 1) := by decide +kernel
theorem dX4_odds_0 : decode cX4_odds 0 = .ok (.aload_n 0, 1) := by decide +kernel
theorem dX4_odds_1 : decode cX4_odds 1 = .ok (.getfield 19, 3) := by decide +kernel
theorem dX4_odds_4 : decode cX4_odds 4 = .ok (.iload_n 1, 1) := by decide +kernel
theorem dX4_odds_5 : decode cX4_odds 5 = .ok (.invokevirtual 99, 3) := by decide +kernel
theorem dX4_odds_8 : decode cX4_odds 8 = .ok (.ifCond .eq 14, 3) := by decide +kernel
theorem dX4_odds_11 : decode cX4_odds 11 = .ok (.aload_n 0, 1) := by decide +kernel
theorem dX4_odds_12 : decode cX4_odds 12 = .ok (.getfield 19, 3) := by decide +kernel
theorem dX4_odds_15 : decode cX4_odds 15 = .ok (.iload_n 2, 1) := by decide +kernel
theorem dX4_odds_16 : decode cX4_odds 16 = .ok (.invokevirtual 81, 3) := by decide +kernel
theorem dX4_odds_19 : decode cX4_odds 19 = .ok (.ifCond .ne 5, 3) := by decide +kernel
theorem dX4_odds_22 : decode cX4_odds 22 = .ok (.iconst (-1), 1) := by decide +kernel
theorem dX4_odds_23 : decode cX4_odds 23 = .ok (.ireturn, 1) := by decide +kernel
theorem dX4_odds_24 : decode cX4_odds 24 = .ok (.iload_n 3, 1) := by decide +kernel
theorem dX4_odds_25 : decode cX4_odds 25 = .ok (.ifCond .lt 20, 3) := by decide +kernel
theorem dX4_odds_28 : decode cX4_odds 28 = .ok (.iload_n 3, 1) := by decide +kernel
theorem dX4_odds_29 : decode cX4_odds 29 = .ok (.bipush 10, 2) := by decide +kernel
theorem dX4_odds_31 : decode cX4_odds 31 = .ok (.if_icmp .gt 14, 3) := by decide +kernel
theorem dX4_odds_34 : decode cX4_odds 34 = .ok (.iload 4, 2) := by decide +kernel
theorem dX4_odds_36 : decode cX4_odds 36 = .ok (.ifCond .eq 11, 3) := by decide +kernel
theorem dX4_odds_39 : decode cX4_odds 39 = .ok (.iload 4, 2) := by decide +kernel
theorem dX4_odds_41 : decode cX4_odds 41 = .ok (.iconst 1, 1) := by decide +kernel
theorem dX4_odds_42 : decode cX4_odds 42 = .ok (.if_icmp .eq 5, 3) := by decide +kernel
theorem dX4_odds_45 : decode cX4_odds 45 = .ok (.iconst (-1), 1) := by decide +kernel
theorem dX4_odds_46 : decode cX4_odds 46 = .ok (.ireturn, 1) := by decide +kernel
theorem dX4_odds_47 : decode cX4_odds 47 = .ok (.aload_n 0, 1) := by decide +kernel
theorem dX4_odds_48 : decode cX4_odds 48 = .ok (.iload_n 1, 1) := by decide +kernel
theorem dX4_odds_49 : decode cX4_odds 49 = .ok (.invokevirtual 112, 3) := by decide +kernel
theorem dX4_odds_52 : decode cX4_odds 52 = .ok (.ifCond .ne 6, 3) := by decide +kernel
theorem dX4_odds_55 : decode cX4_odds 55 = .ok (.bipush (-2), 2) := by decide +kernel
theorem dX4_odds_57 : decode cX4_odds 57 = .ok (.ireturn, 1) := by decide +kernel
theorem dX4_odds_58 : decode cX4_odds 58 = .ok (.aload_n 0, 1) := by decide +kernel
theorem dX4_odds_59 : decode cX4_odds 59 = .ok (.getfield 29, 3) := by decide +kernel
theorem dX4_odds_62 : decode cX4_odds 62 = .ok (.iload_n 2, 1) := by decide +kernel
theorem dX4_odds_63 : decode cX4_odds 63 = .ok (.invokevirtual 96, 3) := by decide +kernel
theorem dX4_odds_66 : decode cX4_odds 66 = .ok (.ifCond .eq 7, 3) := by decide +kernel
theorem dX4_odds_69 : decode cX4_odds 69 = .ok (.iconst 0, 1) := by decide +kernel
theorem dX4_odds_70 : decode cX4_odds 70 = .ok (.goto 7, 3) := by decide +kernel
end
section
theorem dX4_odds_73 : decode cX4_odds 73 = .ok (.bipush 10, 2) := by decide +kernel
theorem dX4_odds_75 : decode cX4_odds 75 = .ok (.iload_n 3, 1) := by decide +kernel
theorem dX4_odds_76 : decode cX4_odds 76 = .ok (.isub, 1) := by decide +kernel
theorem dX4_odds_77 : decode cX4_odds 77 = .ok (.istore 5, 2) := by decide +kernel
theorem dX4_odds_79 : decode cX4_odds 79 = .ok (.bipush 10, 2) := by decide +kernel
theorem dX4_odds_81 : decode cX4_odds 81 = .ok (.istore 6, 2) := by decide +kernel
theorem dX4_odds_83 : decode cX4_odds 83 = .ok (.aload_n 0, 1) := by decide +kernel
theorem dX4_odds_84 : decode cX4_odds 84 = .ok (.iload_n 2, 1) := by decide +kernel
theorem dX4_odds_85 : decode cX4_odds 85 = .ok (.iload_n 1, 1) := by decide +kernel
theorem dX4_odds_86 : decode cX4_odds 86 = .ok (.invokevirtual 184, 3) := by decide +kernel
theorem dX4_odds_89 : decode cX4_odds 89 = .ok (.istore 7, 2) := by decide +kernel
theorem dX4_odds_91 : decode cX4_odds 91 = .ok (.iload 7, 2) := by decide +kernel
theorem dX4_odds_93 : decode cX4_odds 93 = .ok (.ifCond .le 22, 3) := by decide +kernel
theorem dX4_odds_96 : decode cX4_odds 96 = .ok (.iload 5, 2) := by decide +kernel
theorem dX4_odds_98 : decode cX4_odds 98 = .ok (.iload_n 3, 1) := by decide +kernel
theorem dX4_odds_99 : decode cX4_odds 99 = .ok (.imul, 1) := by decide +kernel
theorem dX4_odds_100 : decode cX4_odds 100 = .ok (.istore 5, 2) := by decide +kernel
theorem dX4_odds_102 : decode cX4_odds 102 = .ok (.iload 6, 2) := by decide +kernel
theorem dX4_odds_104 : decode cX4_odds 104 = .ok (.bipush 10, 2) := by decide +kernel
theorem dX4_odds_106 : decode cX4_odds 106 = .ok (.imul, 1) := by decide +kernel
theorem dX4_odds_107 : decode cX4_odds 107 = .ok (.istore 6, 2) := by decide +kernel
theorem dX4_odds_109 : decode cX4_odds 109 = .ok (.iinc 7 (-1), 3) := by decide +kernel
theorem dX4_odds_112 : decode cX4_odds 112 = .ok (.goto (-21), 3) := by decide +kernel
theorem dX4_odds_115 : decode cX4_odds 115 = .ok (.iload 4, 2) := by decide +kernel
theorem dX4_odds_117 : decode cX4_odds 117 = .ok (.ifCond .ne 8, 3) := by decide +kernel
theorem dX4_odds_120 : decode cX4_odds 120 = .ok (.iload 5, 2) := by decide +kernel
theorem dX4_odds_122 : decode cX4_odds 122 = .ok (.goto 5, 3) := by decide +kernel
theorem dX4_odds_125 : decode cX4_odds 125 = .ok (.iload 6, 2) := by decide +kernel
theorem dX4_odds_127 : decode cX4_odds 127 = .ok (.istore 7, 2) := by decide +kernel
theorem dX4_odds_129 : decode cX4_odds 129 = .ok (.iload 6, 2) := by decide +kernel
theorem dX4_odds_131 : decode cX4_odds 131 = .ok (.iload 5, 2) := by decide +kernel
theorem dX4_odds_133 : decode cX4_odds 133 = .ok (.invokestatic 187, 3) := by decide +kernel
theorem dX4_odds_136 : decode cX4_odds 136 = .ok (.istore 8, 2) := by decide +kernel
theorem dX4_odds_138 : decode cX4_odds 138 = .ok (.iload 8, 2) := by decide +kernel
theorem dX4_odds_140 : decode cX4_odds 140 = .ok (.ifCond .le 11, 3) := by decide +kernel
theorem dX4_odds_143 : decode cX4_odds 143 = .ok (.iload 7, 2) := by decide +kernel
theorem dX4_odds_145 : decode cX4_odds 145 = .ok (.iload 8, 2) := by decide +kernel
theorem dX4_odds_147 : decode cX4_odds 147 = .ok (.idiv, 1) := by decide +kernel
theorem dX4_odds_148 : decode cX4_odds 148 = .ok (.goto 5, 3) := by decide +kernel
theorem dX4_odds_151 : decode cX4_odds 151 = .ok (.iload 7, 2) := by decide +kernel
theorem dX4_odds_153 : decode cX4_odds 153 = .ok (.ireturn, 1) := by decide +kernel
theorem dX4_led_0 : decode cX4_led 0 = .ok (.aload_n 0, 1) := by decide +kernel
theorem dX4_led_1 : decode cX4_led 1 = .ok (.getfield 19, 3) := by decide +kernel
theorem dX4_led_4 : decode cX4_led 4 = .ok (.iload_n 1, 1) := by decide +kernel
theorem dX4_led_5 : decode cX4_led 5 = .ok (.invokevirtual 99, 3) := by decide +kernel
theorem dX4_led_8 : decode cX4_led 8 = .ok (.ifCond .eq 14, 3) := by decide +kernel
theorem dX4_led_11 : decode cX4_led 11 = .ok (.aload_n 0, 1) := by decide +kernel
theorem dX4_led_12 : decode cX4_led 12 = .ok (.getfield 19, 3) := by decide +kernel
theorem dX4_led_15 : decode cX4_led 15 = .ok (.iload_n 2, 1) := by decide +kernel
theorem dX4_led_16 : decode cX4_led 16 = .ok (.invokevirtual 81, 3) := by decide +kernel
theorem dX4_led_19 : decode cX4_led 19 = .ok (.ifCond .ne 5, 3) := by decide +kernel
theorem dX4_led_22 : decode cX4_led 22 = .ok (.iconst (-1), 1) := by decide +kernel
theorem dX4_led_23 : decode cX4_led 23 = .ok (.ireturn, 1) := by decide +kernel
theorem dX4_led_24 : decode cX4_led 24 = .ok (.aload_n 0, 1) := by decide +kernel
theorem dX4_led_25 : decode cX4_led 25 = .ok (.iload_n 1, 1) := by decide +kernel
theorem dX4_led_26 : decode cX4_led 26 = .ok (.invokevirtual 112, 3) := by decide +kernel
theorem dX4_led_29 : decode cX4_led 29 = .ok (.ifCond .ne 6, 3) := by decide +kernel
theorem dX4_led_32 : decode cX4_led 32 = .ok (.bipush (-2), 2) := by decide +kernel
theorem dX4_led_34 : decode cX4_led 34 = .ok (.ireturn, 1) := by decide +kernel
theorem dX4_led_35 : decode cX4_led 35 = .ok (.aload_n 0, 1) := by decide +kernel
theorem dX4_led_36 : decode cX4_led 36 = .ok (.getfield 78, 3) := by decide +kernel
theorem dX4_led_39 : decode cX4_led 39 = .ok (.bipush 6, 2) := by decide +kernel
theorem dX4_led_41 : decode cX4_led 41 = .ok (.if_icmp .lt 6, 3) := by decide +kernel
theorem dX4_led_44 : decode cX4_led 44 = .ok (.bipush (-3), 2) := by decide +kernel
theorem dX4_led_46 : decode cX4_led 46 = .ok (.ireturn, 1) := by decide +kernel
theorem dX4_led_47 : decode cX4_led 47 = .ok (.aload_n 0, 1) := by decide +kernel
theorem dX4_led_48 : decode cX4_led 48 = .ok (.getfield 42, 3) := by decide +kernel
theorem dX4_led_51 : decode cX4_led 51 = .ok (.aload_n 0, 1) := by decide +kernel
theorem dX4_led_52 : decode cX4_led 52 = .ok (.getfield 78, 3) := by decide +kernel
theorem dX4_led_55 : decode cX4_led 55 = .ok (.iload_n 1, 1) := by decide +kernel
theorem dX4_led_56 : decode cX4_led 56 = .ok (.iastore, 1) := by decide +kernel
theorem dX4_led_57 : decode cX4_led 57 = .ok (.aload_n 0, 1) := by decide +kernel
theorem dX4_led_58 : decode cX4_led 58 = .ok (.getfield 46, 3) := by decide +kernel
theorem dX4_led_61 : decode cX4_led 61 = .ok (.aload_n 0, 1) := by decide +kernel
theorem dX4_led_62 : decode cX4_led 62 = .ok (.getfield 78, 3) := by decide +kernel
theorem dX4_led_65 : decode cX4_led 65 = .ok (.iload_n 2, 1) := by decide +kernel
theorem dX4_led_66 : decode cX4_led 66 = .ok (.iastore, 1) := by decide +kernel
theorem dX4_led_67 : decode cX4_led 67 = .ok (.aload_n 0, 1) := by decide +kernel
theorem dX4_led_68 : decode cX4_led 68 = .ok (.dup, 1) := by decide +kernel
theorem dX4_led_69 : decode cX4_led 69 = .ok (.getfield 78, 3) := by decide +kernel
theorem dX4_led_72 : decode cX4_led 72 = .ok (.iconst 1, 1) := by decide +kernel
theorem dX4_led_73 : decode cX4_led 73 = .ok (.iadd, 1) := by decide +kernel
theorem dX4_led_74 : decode cX4_led 74 = .ok (.putfield 78, 3) := by decide +kernel
theorem dX4_led_77 : decode cX4_led 77 = .ok (.aload_n 0, 1) := by decide +kernel
theorem dX4_led_78 : decode cX4_led 78 = .ok (.getfield 78, 3) := by decide +kernel
theorem dX4_led_81 : decode cX4_led 81 = .ok (.ireturn, 1) := by decide +kernel
theorem dX4_forget_0 : decode cX4_forget 0 = .ok (.aload_n 0, 1) := by decide +kernel
theorem dX4_forget_1 : decode cX4_forget 1 = .ok (.getfield 78, 3) := by decide +kernel
theorem dX4_forget_4 : decode cX4_forget 4 = .ok (.istore_n 1, 1) := by decide +kernel
theorem dX4_forget_5 : decode cX4_forget 5 = .ok (.aload_n 0, 1) := by decide +kernel
theorem dX4_forget_6 : decode cX4_forget 6 = .ok (.iconst 0, 1) := by decide +kernel
theorem dX4_forget_7 : decode cX4_forget 7 = .ok (.putfield 78, 3) := by decide +kernel
theorem dX4_forget_10 : decode cX4_forget 10 = .ok (.iload_n 1, 1) := by decide +kernel
theorem dX4_forget_11 : decode cX4_forget 11 = .ok (.ireturn, 1) := by decide +kernel
theorem dX4_vanilla_0 : decode cX4_vanilla 0 = .ok (.aload_n 0, 1) := by decide +kernel
theorem dX4_vanilla_1 : decode cX4_vanilla 1 = .ok (.iconst (-1), 1) := by decide +kernel
theorem dX4_vanilla_2 : decode cX4_vanilla 2 = .ok (.invokevirtual 190, 3) := by decide +kernel
theorem dX4_vanilla_5 : decode cX4_vanilla 5 = .ok (.ifCond .eq 8, 3) := by decide +kernel
theorem dX4_vanilla_8 : decode cX4_vanilla 8 = .ok (.bipush 32, 2) := by decide +kernel
theorem dX4_vanilla_10 : decode cX4_vanilla 10 = .ok (.goto 4, 3) := by decide +kernel
theorem dX4_vanilla_13 : decode cX4_vanilla 13 = .ok (.iconst 0, 1) := by decide +kernel
theorem dX4_vanilla_14 : decode cX4_vanilla 14 = .ok (.istore_n 1, 1) := by decide +kernel
theorem dX4_vanilla_15 : decode cX4_vanilla 15 = .ok (.iconst 0, 1) := by decide +kernel
theorem dX4_vanilla_16 : decode cX4_vanilla 16 = .ok (.istore_n 2, 1) := by decide +kernel
theorem dX4_vanilla_17 : decode cX4_vanilla 17 = .ok (.iload_n 2, 1) := by decide +kernel
theorem dX4_vanilla_18 : decode cX4_vanilla 18 = .ok (.aload_n 0, 1) := by decide +kernel
theorem dX4_vanilla_19 : decode cX4_vanilla 19 = .ok (.getfield 19, 3) := by decide +kernel
theorem dX4_vanilla_22 : decode cX4_vanilla 22 = .ok (.invokevirtual 193, 3) := by decide +kernel
theorem dX4_vanilla_25 : decode cX4_vanilla 25 = .ok (.if_icmp .ge 23, 3) := by decide +kernel
theorem dX4_vanilla_28 : decode cX4_vanilla 28 = .ok (.aload_n 0, 1) := by decide +kernel
theorem dX4_vanilla_29 : decode cX4_vanilla 29 = .ok (.iload_n 2, 1) := by decide +kernel
theorem dX4_vanilla_30 : decode cX4_vanilla 30 = .ok (.invokevirtual 190, 3) := by decide +kernel
theorem dX4_vanilla_33 : decode cX4_vanilla 33 = .ok (.ifCond .eq 9, 3) := by decide +kernel
theorem dX4_vanilla_36 : decode cX4_vanilla 36 = .ok (.iload_n 1, 1) := by decide +kernel
theorem dX4_vanilla_37 : decode cX4_vanilla 37 = .ok (.iconst 1, 1) := by decide +kernel
theorem dX4_vanilla_38 : decode cX4_vanilla 38 = .ok (.iload_n 2, 1) := by decide +kernel
theorem dX4_vanilla_39 : decode cX4_vanilla 39 = .ok (.ishl, 1) := by decide +kernel
theorem dX4_vanilla_40 : decode cX4_vanilla 40 = .ok (.ior, 1) := by decide +kernel
theorem dX4_vanilla_41 : decode cX4_vanilla 41 = .ok (.istore_n 1, 1) := by decide +kernel
theorem dX4_vanilla_42 : decode cX4_vanilla 42 = .ok (.iinc 2 1, 3) := by decide +kernel
theorem dX4_vanilla_45 : decode cX4_vanilla 45 = .ok (.goto (-28), 3) := by decide +kernel
theorem dX4_vanilla_48 : decode cX4_vanilla 48 = .ok (.iload_n 1, 1) := by decide +kernel
theorem dX4_vanilla_49 : decode cX4_vanilla 49 = .ok (.ireturn, 1) := by decide +kernel
theorem dX4_mark_0 : decode cX4_mark 0 = .ok (.aload_n 0, 1) := by decide +kernel
theorem dX4_mark_1 : decode cX4_mark 1 = .ok (.getfield 19, 3) := by decide +kernel
theorem dX4_mark_4 : decode cX4_mark 4 = .ok (.iload_n 2, 1) := by decide +kernel
theorem dX4_mark_5 : decode cX4_mark 5 = .ok (.invokevirtual 99, 3) := by decide +kernel
theorem dX4_mark_8 : decode cX4_mark 8 = .ok (.ifCond .ne 6, 3) := by decide +kernel
theorem dX4_mark_11 : decode cX4_mark 11 = .ok (.ldc 84, 2) := by decide +kernel
theorem dX4_mark_13 : decode cX4_mark 13 = .ok (.ireturn, 1) := by decide +kernel
theorem dX4_mark_14 : decode cX4_mark 14 = .ok (.iload_n 1, 1) := by decide +kernel
theorem dX4_mark_15 : decode cX4_mark 15 = .ok (.tableswitch 73 0 5 #[37, 43, 49, 55, 61, 67], 37) := by decide +kernel
theorem dX4_mark_52 : decode cX4_mark 52 = .ok (.aload_n 0, 1) := by decide +kernel
theorem dX4_mark_53 : decode cX4_mark 53 = .ok (.iload_n 2, 1) := by decide +kernel
theorem dX4_mark_54 : decode cX4_mark 54 = .ok (.invokevirtual 196, 3) := by decide +kernel
theorem dX4_mark_57 : decode cX4_mark 57 = .ok (.ireturn, 1) := by decide +kernel
theorem dX4_mark_58 : decode cX4_mark 58 = .ok (.aload_n 0, 1) := by decide +kernel
theorem dX4_mark_59 : decode cX4_mark 59 = .ok (.iload_n 2, 1) := by decide +kernel
theorem dX4_mark_60 : decode cX4_mark 60 = .ok (.invokevirtual 199, 3) := by decide +kernel
theorem dX4_mark_63 : decode cX4_mark 63 = .ok (.ireturn, 1) := by decide +kernel
theorem dX4_mark_64 : decode cX4_mark 64 = .ok (.aload_n 0, 1) := by decide +kernel
theorem dX4_mark_65 : decode cX4_mark 65 = .ok (.iload_n 2, 1) := by decide +kernel
theorem dX4_mark_66 : decode cX4_mark 66 = .ok (.invokevirtual 202, 3) := by decide +kernel
theorem dX4_mark_69 : decode cX4_mark 69 = .ok (.ireturn, 1) := by decide +kernel
theorem dX4_mark_70 : decode cX4_mark 70 = .ok (.aload_n 0, 1) := by decide +kernel
theorem dX4_mark_71 : decode cX4_mark 71 = .ok (.iload_n 2, 1) := by decide +kernel
theorem dX4_mark_72 : decode cX4_mark 72 = .ok (.invokevirtual 205, 3) := by decide +kernel
theorem dX4_mark_75 : decode cX4_mark 75 = .ok (.ireturn, 1) := by decide +kernel
theorem dX4_mark_76 : decode cX4_mark 76 = .ok (.aload_n 0, 1) := by decide +kernel
theorem dX4_mark_77 : decode cX4_mark 77 = .ok (.iload_n 2, 1) := by decide +kernel
theorem dX4_mark_78 : decode cX4_mark 78 = .ok (.invokevirtual 208, 3) := by decide +kernel
theorem dX4_mark_81 : decode cX4_mark 81 = .ok (.ireturn, 1) := by decide +kernel
theorem dX4_mark_82 : decode cX4_mark 82 = .ok (.aload_n 0, 1) := by decide +kernel
theorem dX4_mark_83 : decode cX4_mark 83 = .ok (.iload_n 2, 1) := by decide +kernel
theorem dX4_mark_84 : decode cX4_mark 84 = .ok (.invokevirtual 211, 3) := by decide +kernel
theorem dX4_mark_87 : decode cX4_mark 87 = .ok (.ireturn, 1) := by decide +kernel
theorem dX4_mark_88 : decode cX4_mark 88 = .ok (.ldc 84, 2) := by decide +kernel
theorem dX4_mark_90 : decode cX4_mark 90 = .ok (.ireturn, 1) := by decide +kernel
theorem dX4_keep_0 : decode cX4_keep 0 = .ok (.iload_n 1, 1) := by decide +kernel
theorem dX4_keep_1 : decode cX4_keep 1 = .ok (.ifCond .lt 8, 3) := by decide +kernel
theorem dX4_keep_4 : decode cX4_keep 4 = .ok (.iload_n 1, 1) := by decide +kernel
theorem dX4_keep_5 : decode cX4_keep 5 = .ok (.iconst 2, 1) := by decide +kernel
theorem dX4_keep_6 : decode cX4_keep 6 = .ok (.if_icmp .lt 5, 3) := by decide +kernel
theorem dX4_keep_9 : decode cX4_keep 9 = .ok (.iconst (-1), 1) := by decide +kernel
theorem dX4_keep_10 : decode cX4_keep 10 = .ok (.ireturn, 1) := by decide +kernel
theorem dX4_keep_11 : decode cX4_keep 11 = .ok (.aload_n 0, 1) := by decide +kernel
theorem dX4_keep_12 : decode cX4_keep 12 = .ok (.iload_n 1, 1) := by decide +kernel
theorem dX4_keep_13 : decode cX4_keep 13 = .ok (.invokevirtual 214, 3) := by decide +kernel
theorem dX4_keep_16 : decode cX4_keep 16 = .ok (.aload_n 0, 1) := by decide +kernel
theorem dX4_keep_17 : decode cX4_keep 17 = .ok (.getfield 29, 3) := by decide +kernel
theorem dX4_keep_20 : decode cX4_keep 20 = .ok (.invokevirtual 218, 3) := by decide +kernel
theorem dX4_keep_23 : decode cX4_keep 23 = .ok (.aload_n 0, 1) := by decide +kernel
theorem dX4_keep_24 : decode cX4_keep 24 = .ok (.dup, 1) := by decide +kernel
theorem dX4_keep_25 : decode cX4_keep 25 = .ok (.getfield 74, 3) := by decide +kernel
theorem dX4_keep_28 : decode cX4_keep 28 = .ok (.iconst 1, 1) := by decide +kernel
theorem dX4_keep_29 : decode cX4_keep 29 = .ok (.iload_n 1, 1) := by decide +kernel
theorem dX4_keep_30 : decode cX4_keep 30 = .ok (.ishl, 1) := by decide +kernel
theorem dX4_keep_31 : decode cX4_keep 31 = .ok (.ior, 1) := by decide +kernel
theorem dX4_keep_32 : decode cX4_keep 32 = .ok (.putfield 74, 3) := by decide +kernel
theorem dX4_keep_35 : decode cX4_keep 35 = .ok (.aload_n 0, 1) := by decide +kernel
theorem dX4_keep_36 : decode cX4_keep 36 = .ok (.getfield 29, 3) := by decide +kernel
theorem dX4_keep_39 : decode cX4_keep 39 = .ok (.invokevirtual 137, 3) := by decide +kernel
theorem dX4_keep_42 : decode cX4_keep 42 = .ok (.ireturn, 1) := by decide +kernel
theorem dX4_back_0 : decode cX4_back 0 = .ok (.iload_n 1, 1) := by decide +kernel
theorem dX4_back_1 : decode cX4_back 1 = .ok (.ifCond .lt 8, 3) := by decide +kernel
theorem dX4_back_4 : decode cX4_back 4 = .ok (.iload_n 1, 1) := by decide +kernel
theorem dX4_back_5 : decode cX4_back 5 = .ok (.iconst 2, 1) := by decide +kernel
theorem dX4_back_6 : decode cX4_back 6 = .ok (.if_icmp .lt 5, 3) := by decide +kernel
theorem dX4_back_9 : decode cX4_back 9 = .ok (.iconst (-1), 1) := by decide +kernel
theorem dX4_back_10 : decode cX4_back 10 = .ok (.ireturn, 1) := by decide +kernel
theorem dX4_back_11 : decode cX4_back 11 = .ok (.aload_n 0, 1) := by decide +kernel
theorem dX4_back_12 : decode cX4_back 12 = .ok (.getfield 74, 3) := by decide +kernel
theorem dX4_back_15 : decode cX4_back 15 = .ok (.iconst 1, 1) := by decide +kernel
theorem dX4_back_16 : decode cX4_back 16 = .ok (.iload_n 1, 1) := by decide +kernel
theorem dX4_back_17 : decode cX4_back 17 = .ok (.ishl, 1) := by decide +kernel
theorem dX4_back_18 : decode cX4_back 18 = .ok (.iand, 1) := by decide +kernel
theorem dX4_back_19 : decode cX4_back 19 = .ok (.ifCond .ne 6, 3) := by decide +kernel
theorem dX4_back_22 : decode cX4_back 22 = .ok (.bipush (-2), 2) := by decide +kernel
theorem dX4_back_24 : decode cX4_back 24 = .ok (.ireturn, 1) := by decide +kernel
theorem dX4_back_25 : decode cX4_back 25 = .ok (.aload_n 0, 1) := by decide +kernel
theorem dX4_back_26 : decode cX4_back 26 = .ok (.getfield 29, 3) := by decide +kernel
theorem dX4_back_29 : decode cX4_back 29 = .ok (.aload_n 0, 1) := by decide +kernel
theorem dX4_back_30 : decode cX4_back 30 = .ok (.iload_n 1, 1) := by decide +kernel
theorem dX4_back_31 : decode cX4_back 31 = .ok (.invokevirtual 214, 3) := by decide +kernel
theorem dX4_back_34 : decode cX4_back 34 = .ok (.invokevirtual 218, 3) := by decide +kernel
theorem dX4_back_37 : decode cX4_back 37 = .ok (.aload_n 0, 1) := by decide +kernel
theorem dX4_back_38 : decode cX4_back 38 = .ok (.getfield 29, 3) := by decide +kernel
theorem dX4_back_41 : decode cX4_back 41 = .ok (.invokevirtual 137, 3) := by decide +kernel
theorem dX4_back_44 : decode cX4_back 44 = .ok (.ireturn, 1) := by decide +kernel
theorem dX4_count_0 : decode cX4_count 0 = .ok (.iload_n 1, 1) := by decide +kernel
theorem dX4_count_1 : decode cX4_count 1 = .ok (.tableswitch 72 0 4 #[35, 43, 51, 56, 64], 35) := by decide +kernel
theorem dX4_count_36 : decode cX4_count 36 = .ok (.aload_n 0, 1) := by decide +kernel
theorem dX4_count_37 : decode cX4_count 37 = .ok (.getfield 19, 3) := by decide +kernel
theorem dX4_count_40 : decode cX4_count 40 = .ok (.invokevirtual 193, 3) := by decide +kernel
theorem dX4_count_43 : decode cX4_count 43 = .ok (.ireturn, 1) := by decide +kernel
theorem dX4_count_44 : decode cX4_count 44 = .ok (.aload_n 0, 1) := by decide +kernel
theorem dX4_count_45 : decode cX4_count 45 = .ok (.getfield 19, 3) := by decide +kernel
theorem dX4_count_48 : decode cX4_count 48 = .ok (.invokevirtual 165, 3) := by decide +kernel
theorem dX4_count_51 : decode cX4_count 51 = .ok (.ireturn, 1) := by decide +kernel
theorem dX4_count_52 : decode cX4_count 52 = .ok (.aload_n 0, 1) := by decide +kernel
theorem dX4_count_53 : decode cX4_count 53 = .ok (.getfield 78, 3) := by decide +kernel
theorem dX4_count_56 : decode cX4_count 56 = .ok (.ireturn, 1) := by decide +kernel
theorem dX4_count_57 : decode cX4_count 57 = .ok (.aload_n 0, 1) := by decide +kernel
theorem dX4_count_58 : decode cX4_count 58 = .ok (.getfield 29, 3) := by decide +kernel
theorem dX4_count_61 : decode cX4_count 61 = .ok (.invokevirtual 155, 3) := by decide +kernel
theorem dX4_count_64 : decode cX4_count 64 = .ok (.ireturn, 1) := by decide +kernel
theorem dX4_count_65 : decode cX4_count 65 = .ok (.aload_n 0, 1) := by decide +kernel
theorem dX4_count_66 : decode cX4_count 66 = .ok (.getfield 12, 3) := by decide +kernel
theorem dX4_count_69 : decode cX4_count 69 = .ok (.invokevirtual 60, 3) := by decide +kernel
theorem dX4_count_72 : decode cX4_count 72 = .ok (.ireturn, 1) := by decide +kernel
theorem dX4_count_73 : decode cX4_count 73 = .ok (.iconst (-1), 1) := by decide +kernel
theorem dX4_count_74 : decode cX4_count 74 = .ok (.ireturn, 1) := by decide +kernel
theorem dX4_trace_0 : decode cX4_trace 0 = .ok (.aload_n 0, 1) := by decide +kernel
theorem dX4_trace_1 : decode cX4_trace 1 = .ok (.getfield 221, 3) := by decide +kernel
theorem dX4_trace_4 : decode cX4_trace 4 = .ok (.lreturn, 1) := by decide +kernel
theorem dX4_isOut_0 : decode cX4_isOut 0 = .ok (.aload_n 0, 1) := by decide +kernel
theorem dX4_isOut_1 : decode cX4_isOut 1 = .ok (.getfield 29, 3) := by decide +kernel
theorem dX4_isOut_4 : decode cX4_isOut 4 = .ok (.iload_n 1, 1) := by decide +kernel
theorem dX4_isOut_5 : decode cX4_isOut 5 = .ok (.invokevirtual 105, 3) := by decide +kernel
theorem dX4_isOut_8 : decode cX4_isOut 8 = .ok (.bipush (-9), 2) := by decide +kernel
theorem dX4_isOut_10 : decode cX4_isOut 10 = .ok (.if_icmp .ne 7, 3) := by decide +kernel
theorem dX4_isOut_13 : decode cX4_isOut 13 = .ok (.iconst 1, 1) := by decide +kernel
theorem dX4_isOut_14 : decode cX4_isOut 14 = .ok (.goto 4, 3) := by decide +kernel
theorem dX4_isOut_17 : decode cX4_isOut 17 = .ok (.iconst 0, 1) := by decide +kernel
theorem dX4_isOut_18 : decode cX4_isOut 18 = .ok (.ireturn, 1) := by decide +kernel
theorem dX4_mayGoIn_0 : decode cX4_mayGoIn 0 = .ok (.aload_n 0, 1) := by decide +kernel
theorem dX4_mayGoIn_1 : decode cX4_mayGoIn 1 = .ok (.getfield 29, 3) := by decide +kernel
theorem dX4_mayGoIn_4 : decode cX4_mayGoIn 4 = .ok (.invokevirtual 137, 3) := by decide +kernel
theorem dX4_mayGoIn_7 : decode cX4_mayGoIn 7 = .ok (.istore_n 2, 1) := by decide +kernel
theorem dX4_mayGoIn_8 : decode cX4_mayGoIn 8 = .ok (.aload_n 0, 1) := by decide +kernel
theorem dX4_mayGoIn_9 : decode cX4_mayGoIn 9 = .ok (.iload_n 1, 1) := by decide +kernel
theorem dX4_mayGoIn_10 : decode cX4_mayGoIn 10 = .ok (.invokevirtual 112, 3) := by decide +kernel
theorem dX4_mayGoIn_13 : decode cX4_mayGoIn 13 = .ok (.ifCond .eq 33, 3) := by decide +kernel
theorem dX4_mayGoIn_16 : decode cX4_mayGoIn 16 = .ok (.iload_n 2, 1) := by decide +kernel
theorem dX4_mayGoIn_17 : decode cX4_mayGoIn 17 = .ok (.aload_n 0, 1) := by decide +kernel
theorem dX4_mayGoIn_18 : decode cX4_mayGoIn 18 = .ok (.getfield 19, 3) := by decide +kernel
theorem dX4_mayGoIn_21 : decode cX4_mayGoIn 21 = .ok (.iload_n 1, 1) := by decide +kernel
theorem dX4_mayGoIn_22 : decode cX4_mayGoIn 22 = .ok (.iconst 3, 1) := by decide +kernel
theorem dX4_mayGoIn_23 : decode cX4_mayGoIn 23 = .ok (.invokevirtual 102, 3) := by decide +kernel
theorem dX4_mayGoIn_26 : decode cX4_mayGoIn 26 = .ok (.if_icmp .lt 20, 3) := by decide +kernel
theorem dX4_mayGoIn_29 : decode cX4_mayGoIn 29 = .ok (.iload_n 2, 1) := by decide +kernel
theorem dX4_mayGoIn_30 : decode cX4_mayGoIn 30 = .ok (.aload_n 0, 1) := by decide +kernel
theorem dX4_mayGoIn_31 : decode cX4_mayGoIn 31 = .ok (.getfield 19, 3) := by decide +kernel
theorem dX4_mayGoIn_34 : decode cX4_mayGoIn 34 = .ok (.iload_n 1, 1) := by decide +kernel
theorem dX4_mayGoIn_35 : decode cX4_mayGoIn 35 = .ok (.iconst 4, 1) := by decide +kernel
theorem dX4_mayGoIn_36 : decode cX4_mayGoIn 36 = .ok (.invokevirtual 102, 3) := by decide +kernel
theorem dX4_mayGoIn_39 : decode cX4_mayGoIn 39 = .ok (.if_icmp .gt 7, 3) := by decide +kernel
theorem dX4_mayGoIn_42 : decode cX4_mayGoIn 42 = .ok (.iconst 1, 1) := by decide +kernel
theorem dX4_mayGoIn_43 : decode cX4_mayGoIn 43 = .ok (.goto 4, 3) := by decide +kernel
theorem dX4_mayGoIn_46 : decode cX4_mayGoIn 46 = .ok (.iconst 0, 1) := by decide +kernel
theorem dX4_mayGoIn_47 : decode cX4_mayGoIn 47 = .ok (.ireturn, 1) := by decide +kernel
theorem dX4_outAndGoneSour_0 : decode cX4_outAndGoneSour 0 = .ok (.iconst 0, 1) := by decide +kernel
theorem dX4_outAndGoneSour_1 : decode cX4_outAndGoneSour 1 = .ok (.istore_n 1, 1) := by decide +kernel
theorem dX4_outAndGoneSour_2 : decode cX4_outAndGoneSour 2 = .ok (.iconst 0, 1) := by decide +kernel
theorem dX4_outAndGoneSour_3 : decode cX4_outAndGoneSour 3 = .ok (.istore_n 2, 1) := by decide +kernel
theorem dX4_outAndGoneSour_4 : decode cX4_outAndGoneSour 4 = .ok (.iload_n 2, 1) := by decide +kernel
theorem dX4_outAndGoneSour_5 : decode cX4_outAndGoneSour 5 = .ok (.aload_n 0, 1) := by decide +kernel
theorem dX4_outAndGoneSour_6 : decode cX4_outAndGoneSour 6 = .ok (.getfield 19, 3) := by decide +kernel
theorem dX4_outAndGoneSour_9 : decode cX4_outAndGoneSour 9 = .ok (.invokevirtual 165, 3) := by decide +kernel
theorem dX4_outAndGoneSour_12 : decode cX4_outAndGoneSour 12 = .ok (.if_icmp .ge 42, 3) := by decide +kernel
theorem dX4_outAndGoneSour_15 : decode cX4_outAndGoneSour 15 = .ok (.aload_n 0, 1) := by decide +kernel
theorem dX4_outAndGoneSour_16 : decode cX4_outAndGoneSour 16 = .ok (.iload_n 2, 1) := by decide +kernel
theorem dX4_outAndGoneSour_17 : decode cX4_outAndGoneSour 17 = .ok (.invokevirtual 112, 3) := by decide +kernel
theorem dX4_outAndGoneSour_20 : decode cX4_outAndGoneSour 20 = .ok (.ifCond .eq 28, 3) := by decide +kernel
theorem dX4_outAndGoneSour_23 : decode cX4_outAndGoneSour 23 = .ok (.aload_n 0, 1) := by decide +kernel
theorem dX4_outAndGoneSour_24 : decode cX4_outAndGoneSour 24 = .ok (.getfield 29, 3) := by decide +kernel
theorem dX4_outAndGoneSour_27 : decode cX4_outAndGoneSour 27 = .ok (.invokevirtual 137, 3) := by decide +kernel
theorem dX4_outAndGoneSour_30 : decode cX4_outAndGoneSour 30 = .ok (.aload_n 0, 1) := by decide +kernel
theorem dX4_outAndGoneSour_31 : decode cX4_outAndGoneSour 31 = .ok (.getfield 19, 3) := by decide +kernel
theorem dX4_outAndGoneSour_34 : decode cX4_outAndGoneSour 34 = .ok (.iload_n 2, 1) := by decide +kernel
theorem dX4_outAndGoneSour_35 : decode cX4_outAndGoneSour 35 = .ok (.iconst 4, 1) := by decide +kernel
theorem dX4_outAndGoneSour_36 : decode cX4_outAndGoneSour 36 = .ok (.invokevirtual 102, 3) := by decide +kernel
theorem dX4_outAndGoneSour_39 : decode cX4_outAndGoneSour 39 = .ok (.if_icmp .le 9, 3) := by decide +kernel
theorem dX4_outAndGoneSour_42 : decode cX4_outAndGoneSour 42 = .ok (.iload_n 1, 1) := by decide +kernel
theorem dX4_outAndGoneSour_43 : decode cX4_outAndGoneSour 43 = .ok (.iconst 1, 1) := by decide +kernel
theorem dX4_outAndGoneSour_44 : decode cX4_outAndGoneSour 44 = .ok (.iload_n 2, 1) := by decide +kernel
theorem dX4_outAndGoneSour_45 : decode cX4_outAndGoneSour 45 = .ok (.ishl, 1) := by decide +kernel
theorem dX4_outAndGoneSour_46 : decode cX4_outAndGoneSour 46 = .ok (.ior, 1) := by decide +kernel
theorem dX4_outAndGoneSour_47 : decode cX4_outAndGoneSour 47 = .ok (.istore_n 1, 1) := by decide +kernel
theorem dX4_outAndGoneSour_48 : decode cX4_outAndGoneSour 48 = .ok (.iinc 2 1, 3) := by decide +kernel
theorem dX4_outAndGoneSour_51 : decode cX4_outAndGoneSour 51 = .ok (.goto (-47), 3) := by decide +kernel
theorem dX4_outAndGoneSour_54 : decode cX4_outAndGoneSour 54 = .ok (.iload_n 1, 1) := by decide +kernel
theorem dX4_outAndGoneSour_55 : decode cX4_outAndGoneSour 55 = .ok (.ireturn, 1) := by decide +kernel
theorem dX4_smellOf_0 : decode cX4_smellOf 0 = .ok (.aload_n 0, 1) := by decide +kernel
theorem dX4_smellOf_1 : decode cX4_smellOf 1 = .ok (.getfield 19, 3) := by decide +kernel
theorem dX4_smellOf_4 : decode cX4_smellOf 4 = .ok (.iload_n 1, 1) := by decide +kernel
theorem dX4_smellOf_5 : decode cX4_smellOf 5 = .ok (.iconst 1, 1) := by decide +kernel
theorem dX4_smellOf_6 : decode cX4_smellOf 6 = .ok (.invokevirtual 85, 3) := by decide +kernel
theorem dX4_smellOf_9 : decode cX4_smellOf 9 = .ok (.bipush 9, 2) := by decide +kernel
theorem dX4_smellOf_11 : decode cX4_smellOf 11 = .ok (.isub, 1) := by decide +kernel
theorem dX4_smellOf_12 : decode cX4_smellOf 12 = .ok (.istore 4, 2) := by decide +kernel
theorem dX4_smellOf_14 : decode cX4_smellOf 14 = .ok (.iconst 0, 1) := by decide +kernel
theorem dX4_smellOf_15 : decode cX4_smellOf 15 = .ok (.istore 5, 2) := by decide +kernel
theorem dX4_smellOf_17 : decode cX4_smellOf 17 = .ok (.iload 5, 2) := by decide +kernel
theorem dX4_smellOf_19 : decode cX4_smellOf 19 = .ok (.aload_n 0, 1) := by decide +kernel
theorem dX4_smellOf_20 : decode cX4_smellOf 20 = .ok (.getfield 19, 3) := by decide +kernel
theorem dX4_smellOf_23 : decode cX4_smellOf 23 = .ok (.invokevirtual 165, 3) := by decide +kernel
theorem dX4_smellOf_26 : decode cX4_smellOf 26 = .ok (.if_icmp .ge 52, 3) := by decide +kernel
theorem dX4_smellOf_29 : decode cX4_smellOf 29 = .ok (.aload_n 0, 1) := by decide +kernel
theorem dX4_smellOf_30 : decode cX4_smellOf 30 = .ok (.getfield 29, 3) := by decide +kernel
theorem dX4_smellOf_33 : decode cX4_smellOf 33 = .ok (.iload 5, 2) := by decide +kernel
theorem dX4_smellOf_35 : decode cX4_smellOf 35 = .ok (.invokevirtual 105, 3) := by decide +kernel
theorem dX4_smellOf_38 : decode cX4_smellOf 38 = .ok (.iload_n 1, 1) := by decide +kernel
theorem dX4_smellOf_39 : decode cX4_smellOf 39 = .ok (.if_icmp .ne 33, 3) := by decide +kernel
theorem dX4_smellOf_42 : decode cX4_smellOf 42 = .ok (.iload 4, 2) := by decide +kernel
theorem dX4_smellOf_44 : decode cX4_smellOf 44 = .ok (.aload_n 0, 1) := by decide +kernel
theorem dX4_smellOf_45 : decode cX4_smellOf 45 = .ok (.iload_n 2, 1) := by decide +kernel
theorem dX4_smellOf_46 : decode cX4_smellOf 46 = .ok (.aload_n 0, 1) := by decide +kernel
theorem dX4_smellOf_47 : decode cX4_smellOf 47 = .ok (.getfield 19, 3) := by decide +kernel
theorem dX4_smellOf_50 : decode cX4_smellOf 50 = .ok (.iload 5, 2) := by decide +kernel
theorem dX4_smellOf_52 : decode cX4_smellOf 52 = .ok (.iconst 0, 1) := by decide +kernel
theorem dX4_smellOf_53 : decode cX4_smellOf 53 = .ok (.invokevirtual 102, 3) := by decide +kernel
theorem dX4_smellOf_56 : decode cX4_smellOf 56 = .ok (.aload_n 0, 1) := by decide +kernel
theorem dX4_smellOf_57 : decode cX4_smellOf 57 = .ok (.getfield 19, 3) := by decide +kernel
theorem dX4_smellOf_60 : decode cX4_smellOf 60 = .ok (.iload 5, 2) := by decide +kernel
theorem dX4_smellOf_62 : decode cX4_smellOf 62 = .ok (.iconst 1, 1) := by decide +kernel
theorem dX4_smellOf_63 : decode cX4_smellOf 63 = .ok (.invokevirtual 102, 3) := by decide +kernel
theorem dX4_smellOf_66 : decode cX4_smellOf 66 = .ok (.invokevirtual 225, 3) := by decide +kernel
theorem dX4_smellOf_69 : decode cX4_smellOf 69 = .ok (.iadd, 1) := by decide +kernel
theorem dX4_smellOf_70 : decode cX4_smellOf 70 = .ok (.istore 4, 2) := by decide +kernel
theorem dX4_smellOf_72 : decode cX4_smellOf 72 = .ok (.iinc 5 1, 3) := by decide +kernel
theorem dX4_smellOf_75 : decode cX4_smellOf 75 = .ok (.goto (-58), 3) := by decide +kernel
theorem dX4_smellOf_78 : decode cX4_smellOf 78 = .ok (.iload_n 3, 1) := by decide +kernel
theorem dX4_smellOf_79 : decode cX4_smellOf 79 = .ok (.iload_n 1, 1) := by decide +kernel
theorem dX4_smellOf_80 : decode cX4_smellOf 80 = .ok (.if_icmp .ne 17, 3) := by decide +kernel
theorem dX4_smellOf_83 : decode cX4_smellOf 83 = .ok (.iload 4, 2) := by decide +kernel
theorem dX4_smellOf_85 : decode cX4_smellOf 85 = .ok (.aload_n 0, 1) := by decide +kernel
theorem dX4_smellOf_86 : decode cX4_smellOf 86 = .ok (.iload_n 2, 1) := by decide +kernel
theorem dX4_smellOf_87 : decode cX4_smellOf 87 = .ok (.bipush 9, 2) := by decide +kernel
theorem dX4_smellOf_89 : decode cX4_smellOf 89 = .ok (.iconst 0, 1) := by decide +kernel
theorem dX4_smellOf_90 : decode cX4_smellOf 90 = .ok (.invokevirtual 225, 3) := by decide +kernel
theorem dX4_smellOf_93 : decode cX4_smellOf 93 = .ok (.iadd, 1) := by decide +kernel
theorem dX4_smellOf_94 : decode cX4_smellOf 94 = .ok (.goto 5, 3) := by decide +kernel
theorem dX4_smellOf_97 : decode cX4_smellOf 97 = .ok (.iload 4, 2) := by decide +kernel
theorem dX4_smellOf_99 : decode cX4_smellOf 99 = .ok (.ireturn, 1) := by decide +kernel
theorem dX4_liking_0 : decode cX4_liking 0 = .ok (.aload_n 0, 1) := by decide +kernel
theorem dX4_liking_1 : decode cX4_liking 1 = .ok (.getfield 19, 3) := by decide +kernel
theorem dX4_liking_4 : decode cX4_liking 4 = .ok (.iload_n 1, 1) := by decide +kernel
theorem dX4_liking_5 : decode cX4_liking 5 = .ok (.iconst 0, 1) := by decide +kernel
theorem dX4_liking_6 : decode cX4_liking 6 = .ok (.invokevirtual 102, 3) := by decide +kernel
theorem dX4_liking_9 : decode cX4_liking 9 = .ok (.istore 4, 2) := by decide +kernel
theorem dX4_liking_11 : decode cX4_liking 11 = .ok (.aload_n 0, 1) := by decide +kernel
theorem dX4_liking_12 : decode cX4_liking 12 = .ok (.getfield 19, 3) := by decide +kernel
theorem dX4_liking_15 : decode cX4_liking 15 = .ok (.iload_n 1, 1) := by decide +kernel
theorem dX4_liking_16 : decode cX4_liking 16 = .ok (.iconst 1, 1) := by decide +kernel
theorem dX4_liking_17 : decode cX4_liking 17 = .ok (.invokevirtual 102, 3) := by decide +kernel
theorem dX4_liking_20 : decode cX4_liking 20 = .ok (.istore 5, 2) := by decide +kernel
theorem dX4_liking_22 : decode cX4_liking 22 = .ok (.iload 4, 2) := by decide +kernel
theorem dX4_liking_24 : decode cX4_liking 24 = .ok (.iload_n 2, 1) := by decide +kernel
theorem dX4_liking_25 : decode cX4_liking 25 = .ok (.imul, 1) := by decide +kernel
theorem dX4_liking_26 : decode cX4_liking 26 = .ok (.iload 5, 2) := by decide +kernel
theorem dX4_liking_28 : decode cX4_liking 28 = .ok (.iload_n 3, 1) := by decide +kernel
theorem dX4_liking_29 : decode cX4_liking 29 = .ok (.imul, 1) := by decide +kernel
theorem dX4_liking_30 : decode cX4_liking 30 = .ok (.iadd, 1) := by decide +kernel
theorem dX4_liking_31 : decode cX4_liking 31 = .ok (.iload 4, 2) := by decide +kernel
theorem dX4_liking_33 : decode cX4_liking 33 = .ok (.iload_n 3, 1) := by decide +kernel
theorem dX4_liking_34 : decode cX4_liking 34 = .ok (.imul, 1) := by decide +kernel
theorem dX4_liking_35 : decode cX4_liking 35 = .ok (.isub, 1) := by decide +kernel
theorem dX4_liking_36 : decode cX4_liking 36 = .ok (.iload 5, 2) := by decide +kernel
theorem dX4_liking_38 : decode cX4_liking 38 = .ok (.iload_n 2, 1) := by decide +kernel
theorem dX4_liking_39 : decode cX4_liking 39 = .ok (.imul, 1) := by decide +kernel
theorem dX4_liking_40 : decode cX4_liking 40 = .ok (.isub, 1) := by decide +kernel
theorem dX4_liking_41 : decode cX4_liking 41 = .ok (.ireturn, 1) := by decide +kernel
theorem dX4_noseOf_0 : decode cX4_noseOf 0 = .ok (.bipush (-9), 2) := by decide +kernel
theorem dX4_noseOf_2 : decode cX4_noseOf 2 = .ok (.istore_n 3, 1) := by decide +kernel
theorem dX4_noseOf_3 : decode cX4_noseOf 3 = .ok (.iconst 0, 1) := by decide +kernel
theorem dX4_noseOf_4 : decode cX4_noseOf 4 = .ok (.istore 4, 2) := by decide +kernel
theorem dX4_noseOf_6 : decode cX4_noseOf 6 = .ok (.iconst 0, 1) := by decide +kernel
theorem dX4_noseOf_7 : decode cX4_noseOf 7 = .ok (.istore 5, 2) := by decide +kernel
theorem dX4_noseOf_9 : decode cX4_noseOf 9 = .ok (.iload 5, 2) := by decide +kernel
theorem dX4_noseOf_11 : decode cX4_noseOf 11 = .ok (.aload_n 0, 1) := by decide +kernel
theorem dX4_noseOf_12 : decode cX4_noseOf 12 = .ok (.getfield 19, 3) := by decide +kernel
theorem dX4_noseOf_15 : decode cX4_noseOf 15 = .ok (.invokevirtual 193, 3) := by decide +kernel
theorem dX4_noseOf_18 : decode cX4_noseOf 18 = .ok (.if_icmp .ge 51, 3) := by decide +kernel
theorem dX4_noseOf_21 : decode cX4_noseOf 21 = .ok (.aload_n 0, 1) := by decide +kernel
theorem dX4_noseOf_22 : decode cX4_noseOf 22 = .ok (.getfield 29, 3) := by decide +kernel
theorem dX4_noseOf_25 : decode cX4_noseOf 25 = .ok (.iload 5, 2) := by decide +kernel
theorem dX4_noseOf_27 : decode cX4_noseOf 27 = .ok (.invokevirtual 96, 3) := by decide +kernel
theorem dX4_noseOf_30 : decode cX4_noseOf 30 = .ok (.ifCond .ne 33, 3) := by decide +kernel
theorem dX4_noseOf_33 : decode cX4_noseOf 33 = .ok (.aload_n 0, 1) := by decide +kernel
theorem dX4_noseOf_34 : decode cX4_noseOf 34 = .ok (.iload 5, 2) := by decide +kernel
theorem dX4_noseOf_36 : decode cX4_noseOf 36 = .ok (.iload_n 1, 1) := by decide +kernel
theorem dX4_noseOf_37 : decode cX4_noseOf 37 = .ok (.iload_n 2, 1) := by decide +kernel
theorem dX4_noseOf_38 : decode cX4_noseOf 38 = .ok (.invokevirtual 118, 3) := by decide +kernel
theorem dX4_noseOf_41 : decode cX4_noseOf 41 = .ok (.istore 6, 2) := by decide +kernel
theorem dX4_noseOf_43 : decode cX4_noseOf 43 = .ok (.iload_n 3, 1) := by decide +kernel
theorem dX4_noseOf_44 : decode cX4_noseOf 44 = .ok (.bipush (-9), 2) := by decide +kernel
theorem dX4_noseOf_46 : decode cX4_noseOf 46 = .ok (.if_icmp .eq 10, 3) := by decide +kernel
theorem dX4_noseOf_49 : decode cX4_noseOf 49 = .ok (.iload 6, 2) := by decide +kernel
theorem dX4_noseOf_51 : decode cX4_noseOf 51 = .ok (.iload 4, 2) := by decide +kernel
theorem dX4_noseOf_53 : decode cX4_noseOf 53 = .ok (.if_icmp .le 10, 3) := by decide +kernel
theorem dX4_noseOf_56 : decode cX4_noseOf 56 = .ok (.iload 5, 2) := by decide +kernel
theorem dX4_noseOf_58 : decode cX4_noseOf 58 = .ok (.istore_n 3, 1) := by decide +kernel
theorem dX4_noseOf_59 : decode cX4_noseOf 59 = .ok (.iload 6, 2) := by decide +kernel
theorem dX4_noseOf_61 : decode cX4_noseOf 61 = .ok (.istore 4, 2) := by decide +kernel
theorem dX4_noseOf_63 : decode cX4_noseOf 63 = .ok (.iinc 5 1, 3) := by decide +kernel
theorem dX4_noseOf_66 : decode cX4_noseOf 66 = .ok (.goto (-57), 3) := by decide +kernel
theorem dX4_noseOf_69 : decode cX4_noseOf 69 = .ok (.iload_n 3, 1) := by decide +kernel
theorem dX4_noseOf_70 : decode cX4_noseOf 70 = .ok (.ireturn, 1) := by decide +kernel
theorem dX4_rivalsOf_0 : decode cX4_rivalsOf 0 = .ok (.aload_n 0, 1) := by decide +kernel
theorem dX4_rivalsOf_1 : decode cX4_rivalsOf 1 = .ok (.iload_n 1, 1) := by decide +kernel
theorem dX4_rivalsOf_2 : decode cX4_rivalsOf 2 = .ok (.iload_n 2, 1) := by decide +kernel
theorem dX4_rivalsOf_3 : decode cX4_rivalsOf 3 = .ok (.iconst (-1), 1) := by decide +kernel
theorem dX4_rivalsOf_4 : decode cX4_rivalsOf 4 = .ok (.invokevirtual 118, 3) := by decide +kernel
theorem dX4_rivalsOf_7 : decode cX4_rivalsOf 7 = .ok (.istore_n 3, 1) := by decide +kernel
theorem dX4_rivalsOf_8 : decode cX4_rivalsOf 8 = .ok (.iconst 0, 1) := by decide +kernel
theorem dX4_rivalsOf_9 : decode cX4_rivalsOf 9 = .ok (.istore 4, 2) := by decide +kernel
theorem dX4_rivalsOf_11 : decode cX4_rivalsOf 11 = .ok (.iconst 0, 1) := by decide +kernel
theorem dX4_rivalsOf_12 : decode cX4_rivalsOf 12 = .ok (.istore 5, 2) := by decide +kernel
theorem dX4_rivalsOf_14 : decode cX4_rivalsOf 14 = .ok (.iload 5, 2) := by decide +kernel
theorem dX4_rivalsOf_16 : decode cX4_rivalsOf 16 = .ok (.aload_n 0, 1) := by decide +kernel
theorem dX4_rivalsOf_17 : decode cX4_rivalsOf 17 = .ok (.getfield 19, 3) := by decide +kernel
theorem dX4_rivalsOf_20 : decode cX4_rivalsOf 20 = .ok (.invokevirtual 193, 3) := by decide +kernel
theorem dX4_rivalsOf_23 : decode cX4_rivalsOf 23 = .ok (.if_icmp .ge 58, 3) := by decide +kernel
theorem dX4_rivalsOf_26 : decode cX4_rivalsOf 26 = .ok (.iload 5, 2) := by decide +kernel
theorem dX4_rivalsOf_28 : decode cX4_rivalsOf 28 = .ok (.iload_n 1, 1) := by decide +kernel
theorem dX4_rivalsOf_29 : decode cX4_rivalsOf 29 = .ok (.if_icmp .eq 46, 3) := by decide +kernel
theorem dX4_rivalsOf_32 : decode cX4_rivalsOf 32 = .ok (.aload_n 0, 1) := by decide +kernel
theorem dX4_rivalsOf_33 : decode cX4_rivalsOf 33 = .ok (.getfield 29, 3) := by decide +kernel
theorem dX4_rivalsOf_36 : decode cX4_rivalsOf 36 = .ok (.iload 5, 2) := by decide +kernel
theorem dX4_rivalsOf_38 : decode cX4_rivalsOf 38 = .ok (.invokevirtual 96, 3) := by decide +kernel
theorem dX4_rivalsOf_41 : decode cX4_rivalsOf 41 = .ok (.ifCond .ne 34, 3) := by decide +kernel
theorem dX4_rivalsOf_44 : decode cX4_rivalsOf 44 = .ok (.aload_n 0, 1) := by decide +kernel
theorem dX4_rivalsOf_45 : decode cX4_rivalsOf 45 = .ok (.iload 5, 2) := by decide +kernel
theorem dX4_rivalsOf_47 : decode cX4_rivalsOf 47 = .ok (.iload_n 2, 1) := by decide +kernel
theorem dX4_rivalsOf_48 : decode cX4_rivalsOf 48 = .ok (.iconst (-1), 1) := by decide +kernel
theorem dX4_rivalsOf_49 : decode cX4_rivalsOf 49 = .ok (.invokevirtual 118, 3) := by decide +kernel
theorem dX4_rivalsOf_52 : decode cX4_rivalsOf 52 = .ok (.istore 6, 2) := by decide +kernel
theorem dX4_rivalsOf_54 : decode cX4_rivalsOf 54 = .ok (.iload 6, 2) := by decide +kernel
theorem dX4_rivalsOf_56 : decode cX4_rivalsOf 56 = .ok (.iload_n 3, 1) := by decide +kernel
theorem dX4_rivalsOf_57 : decode cX4_rivalsOf 57 = .ok (.if_icmp .gt 15, 3) := by decide +kernel
theorem dX4_rivalsOf_60 : decode cX4_rivalsOf 60 = .ok (.iload 6, 2) := by decide +kernel
theorem dX4_rivalsOf_62 : decode cX4_rivalsOf 62 = .ok (.iload_n 3, 1) := by decide +kernel
theorem dX4_rivalsOf_63 : decode cX4_rivalsOf 63 = .ok (.if_icmp .ne 12, 3) := by decide +kernel
theorem dX4_rivalsOf_66 : decode cX4_rivalsOf 66 = .ok (.iload 5, 2) := by decide +kernel
theorem dX4_rivalsOf_68 : decode cX4_rivalsOf 68 = .ok (.iload_n 1, 1) := by decide +kernel
theorem dX4_rivalsOf_69 : decode cX4_rivalsOf 69 = .ok (.if_icmp .ge 6, 3) := by decide +kernel
theorem dX4_rivalsOf_72 : decode cX4_rivalsOf 72 = .ok (.iinc 4 1, 3) := by decide +kernel
theorem dX4_rivalsOf_75 : decode cX4_rivalsOf 75 = .ok (.iinc 5 1, 3) := by decide +kernel
theorem dX4_rivalsOf_78 : decode cX4_rivalsOf 78 = .ok (.goto (-64), 3) := by decide +kernel
theorem dX4_rivalsOf_81 : decode cX4_rivalsOf 81 = .ok (.iload 4, 2) := by decide +kernel
theorem dX4_rivalsOf_83 : decode cX4_rivalsOf 83 = .ok (.ireturn, 1) := by decide +kernel
theorem dX4_allLedWith_0 : decode cX4_allLedWith 0 = .ok (.iconst 0, 1) := by decide +kernel
theorem dX4_allLedWith_1 : decode cX4_allLedWith 1 = .ok (.istore_n 2, 1) := by decide +kernel
theorem dX4_allLedWith_2 : decode cX4_allLedWith 2 = .ok (.iload_n 2, 1) := by decide +kernel
theorem dX4_allLedWith_3 : decode cX4_allLedWith 3 = .ok (.aload_n 0, 1) := by decide +kernel
theorem dX4_allLedWith_4 : decode cX4_allLedWith 4 = .ok (.getfield 78, 3) := by decide +kernel
theorem dX4_allLedWith_7 : decode cX4_allLedWith 7 = .ok (.if_icmp .ge 41, 3) := by decide +kernel
theorem dX4_allLedWith_10 : decode cX4_allLedWith 10 = .ok (.aload_n 0, 1) := by decide +kernel
theorem dX4_allLedWith_11 : decode cX4_allLedWith 11 = .ok (.getfield 42, 3) := by decide +kernel
theorem dX4_allLedWith_14 : decode cX4_allLedWith 14 = .ok (.iload_n 2, 1) := by decide +kernel
theorem dX4_allLedWith_15 : decode cX4_allLedWith 15 = .ok (.iaload, 1) := by decide +kernel
theorem dX4_allLedWith_16 : decode cX4_allLedWith 16 = .ok (.istore_n 3, 1) := by decide +kernel
theorem dX4_allLedWith_17 : decode cX4_allLedWith 17 = .ok (.aload_n 0, 1) := by decide +kernel
theorem dX4_allLedWith_18 : decode cX4_allLedWith 18 = .ok (.iload_n 3, 1) := by decide +kernel
theorem dX4_allLedWith_19 : decode cX4_allLedWith 19 = .ok (.invokevirtual 112, 3) := by decide +kernel
theorem dX4_allLedWith_22 : decode cX4_allLedWith 22 = .ok (.ifCond .eq 18, 3) := by decide +kernel
theorem dX4_allLedWith_25 : decode cX4_allLedWith 25 = .ok (.aload_n 0, 1) := by decide +kernel
theorem dX4_allLedWith_26 : decode cX4_allLedWith 26 = .ok (.iload_n 3, 1) := by decide +kernel
theorem dX4_allLedWith_27 : decode cX4_allLedWith 27 = .ok (.iload_n 1, 1) := by decide +kernel
theorem dX4_allLedWith_28 : decode cX4_allLedWith 28 = .ok (.invokevirtual 115, 3) := by decide +kernel
theorem dX4_allLedWith_31 : decode cX4_allLedWith 31 = .ok (.aload_n 0, 1) := by decide +kernel
theorem dX4_allLedWith_32 : decode cX4_allLedWith 32 = .ok (.getfield 46, 3) := by decide +kernel
theorem dX4_allLedWith_35 : decode cX4_allLedWith 35 = .ok (.iload_n 2, 1) := by decide +kernel
theorem dX4_allLedWith_36 : decode cX4_allLedWith 36 = .ok (.iaload, 1) := by decide +kernel
theorem dX4_allLedWith_37 : decode cX4_allLedWith 37 = .ok (.if_icmp .eq 5, 3) := by decide +kernel
theorem dX4_allLedWith_40 : decode cX4_allLedWith 40 = .ok (.iconst 0, 1) := by decide +kernel
theorem dX4_allLedWith_41 : decode cX4_allLedWith 41 = .ok (.ireturn, 1) := by decide +kernel
theorem dX4_allLedWith_42 : decode cX4_allLedWith 42 = .ok (.iinc 2 1, 3) := by decide +kernel
theorem dX4_allLedWith_45 : decode cX4_allLedWith 45 = .ok (.goto (-43), 3) := by decide +kernel
theorem dX4_allLedWith_48 : decode cX4_allLedWith 48 = .ok (.iconst 1, 1) := by decide +kernel
theorem dX4_allLedWith_49 : decode cX4_allLedWith 49 = .ok (.ireturn, 1) := by decide +kernel
theorem dX4_imageCourse_0 : decode cX4_imageCourse 0 = .ok (.iload_n 1, 1) := by decide +kernel
theorem dX4_imageCourse_1 : decode cX4_imageCourse 1 = .ok (.ifCond .ne 10, 3) := by decide +kernel
theorem dX4_imageCourse_4 : decode cX4_imageCourse 4 = .ok (.aload_n 0, 1) := by decide +kernel
theorem dX4_imageCourse_5 : decode cX4_imageCourse 5 = .ok (.getfield 36, 3) := by decide +kernel
theorem dX4_imageCourse_8 : decode cX4_imageCourse 8 = .ok (.goto 7, 3) := by decide +kernel
theorem dX4_imageCourse_11 : decode cX4_imageCourse 11 = .ok (.aload_n 0, 1) := by decide +kernel
theorem dX4_imageCourse_12 : decode cX4_imageCourse 12 = .ok (.getfield 39, 3) := by decide +kernel
theorem dX4_imageCourse_15 : decode cX4_imageCourse 15 = .ok (.areturn, 1) := by decide +kernel
theorem dX4_dividedUp_0 : decode cX4_dividedUp 0 = .ok (.iload_n 1, 1) := by decide +kernel
theorem dX4_dividedUp_1 : decode cX4_dividedUp 1 = .ok (.ifCond .le 13, 3) := by decide +kernel
theorem dX4_dividedUp_4 : decode cX4_dividedUp 4 = .ok (.iload_n 0, 1) := by decide +kernel
theorem dX4_dividedUp_5 : decode cX4_dividedUp 5 = .ok (.iload_n 1, 1) := by decide +kernel
theorem dX4_dividedUp_6 : decode cX4_dividedUp 6 = .ok (.iadd, 1) := by decide +kernel
theorem dX4_dividedUp_7 : decode cX4_dividedUp 7 = .ok (.iconst 1, 1) := by decide +kernel
theorem dX4_dividedUp_8 : decode cX4_dividedUp 8 = .ok (.isub, 1) := by decide +kernel
theorem dX4_dividedUp_9 : decode cX4_dividedUp 9 = .ok (.iload_n 1, 1) := by decide +kernel
theorem dX4_dividedUp_10 : decode cX4_dividedUp 10 = .ok (.idiv, 1) := by decide +kernel
theorem dX4_dividedUp_11 : decode cX4_dividedUp 11 = .ok (.goto 4, 3) := by decide +kernel
theorem dX4_dividedUp_14 : decode cX4_dividedUp 14 = .ok (.iconst 0, 1) := by decide +kernel
theorem dX4_dividedUp_15 : decode cX4_dividedUp 15 = .ok (.ireturn, 1) := by decide +kernel
theorem dX4_commonDivisor_0 : decode cX4_commonDivisor 0 = .ok (.iload_n 0, 1) := by decide +kernel
theorem dX4_commonDivisor_1 : decode cX4_commonDivisor 1 = .ok (.istore_n 2, 1) := by decide +kernel
theorem dX4_commonDivisor_2 : decode cX4_commonDivisor 2 = .ok (.iload_n 1, 1) := by decide +kernel
theorem dX4_commonDivisor_3 : decode cX4_commonDivisor 3 = .ok (.istore_n 3, 1) := by decide +kernel
theorem dX4_commonDivisor_4 : decode cX4_commonDivisor 4 = .ok (.iconst 0, 1) := by decide +kernel
theorem dX4_commonDivisor_5 : decode cX4_commonDivisor 5 = .ok (.istore 4, 2) := by decide +kernel
theorem dX4_commonDivisor_7 : decode cX4_commonDivisor 7 = .ok (.iload 4, 2) := by decide +kernel
theorem dX4_commonDivisor_9 : decode cX4_commonDivisor 9 = .ok (.bipush 64, 2) := by decide +kernel
theorem dX4_commonDivisor_11 : decode cX4_commonDivisor 11 = .ok (.if_icmp .ge 23, 3) := by decide +kernel
theorem dX4_commonDivisor_14 : decode cX4_commonDivisor 14 = .ok (.iload_n 3, 1) := by decide +kernel
theorem dX4_commonDivisor_15 : decode cX4_commonDivisor 15 = .ok (.ifCond .le 19, 3) := by decide +kernel
theorem dX4_commonDivisor_18 : decode cX4_commonDivisor 18 = .ok (.iload_n 2, 1) := by decide +kernel
theorem dX4_commonDivisor_19 : decode cX4_commonDivisor 19 = .ok (.iload_n 3, 1) := by decide +kernel
theorem dX4_commonDivisor_20 : decode cX4_commonDivisor 20 = .ok (.irem, 1) := by decide +kernel
theorem dX4_commonDivisor_21 : decode cX4_commonDivisor 21 = .ok (.istore 5, 2) := by decide +kernel
theorem dX4_commonDivisor_23 : decode cX4_commonDivisor 23 = .ok (.iload_n 3, 1) := by decide +kernel
theorem dX4_commonDivisor_24 : decode cX4_commonDivisor 24 = .ok (.istore_n 2, 1) := by decide +kernel
theorem dX4_commonDivisor_25 : decode cX4_commonDivisor 25 = .ok (.iload 5, 2) := by decide +kernel
theorem dX4_commonDivisor_27 : decode cX4_commonDivisor 27 = .ok (.istore_n 3, 1) := by decide +kernel
theorem dX4_commonDivisor_28 : decode cX4_commonDivisor 28 = .ok (.iinc 4 1, 3) := by decide +kernel
theorem dX4_commonDivisor_31 : decode cX4_commonDivisor 31 = .ok (.goto (-24), 3) := by decide +kernel
theorem dX4_commonDivisor_34 : decode cX4_commonDivisor 34 = .ok (.iload_n 2, 1) := by decide +kernel
theorem dX4_commonDivisor_35 : decode cX4_commonDivisor 35 = .ok (.ireturn, 1) := by decide +kernel
theorem dX4_asDough_0 : decode cX4_asDough 0 = .ok (.aload_n 0, 1) := by decide +kernel
theorem dX4_asDough_1 : decode cX4_asDough 1 = .ok (.dup, 1) := by decide +kernel
theorem dX4_asDough_2 : decode cX4_asDough 2 = .ok (.getfield 221, 3) := by decide +kernel
theorem dX4_asDough_5 : decode cX4_asDough 5 = .ok (.lconst 1, 1) := by decide +kernel
theorem dX4_asDough_6 : decode cX4_asDough 6 = .ok (.ladd, 1) := by decide +kernel
theorem dX4_asDough_7 : decode cX4_asDough 7 = .ok (.putfield 221, 3) := by decide +kernel
theorem dX4_asDough_10 : decode cX4_asDough 10 = .ok (.aload_n 0, 1) := by decide +kernel
theorem dX4_asDough_11 : decode cX4_asDough 11 = .ok (.getfield 19, 3) := by decide +kernel
theorem dX4_asDough_14 : decode cX4_asDough 14 = .ok (.iload_n 1, 1) := by decide +kernel
theorem dX4_asDough_15 : decode cX4_asDough 15 = .ok (.iconst 0, 1) := by decide +kernel
theorem dX4_asDough_16 : decode cX4_asDough 16 = .ok (.invokevirtual 102, 3) := by decide +kernel
theorem dX4_asDough_19 : decode cX4_asDough 19 = .ok (.ireturn, 1) := by decide +kernel
theorem dX4_asCake_0 : decode cX4_asCake 0 = .ok (.aload_n 0, 1) := by decide +kernel
theorem dX4_asCake_1 : decode cX4_asCake 1 = .ok (.dup, 1) := by decide +kernel
theorem dX4_asCake_2 : decode cX4_asCake 2 = .ok (.getfield 221, 3) := by decide +kernel
theorem dX4_asCake_5 : decode cX4_asCake 5 = .ok (.ldc2_w 228, 3) := by decide +kernel
theorem dX4_asCake_8 : decode cX4_asCake 8 = .ok (.ladd, 1) := by decide +kernel
theorem dX4_asCake_9 : decode cX4_asCake 9 = .ok (.putfield 221, 3) := by decide +kernel
theorem dX4_asCake_12 : decode cX4_asCake 12 = .ok (.aload_n 0, 1) := by decide +kernel
theorem dX4_asCake_13 : decode cX4_asCake 13 = .ok (.iload_n 1, 1) := by decide +kernel
theorem dX4_asCake_14 : decode cX4_asCake 14 = .ok (.invokevirtual 196, 3) := by decide +kernel
theorem dX4_asCake_17 : decode cX4_asCake 17 = .ok (.aload_n 0, 1) := by decide +kernel
theorem dX4_asCake_18 : decode cX4_asCake 18 = .ok (.getfield 29, 3) := by decide +kernel
theorem dX4_asCake_21 : decode cX4_asCake 21 = .ok (.iload_n 1, 1) := by decide +kernel
theorem dX4_asCake_22 : decode cX4_asCake 22 = .ok (.invokevirtual 109, 3) := by decide +kernel
theorem dX4_asCake_25 : decode cX4_asCake 25 = .ok (.iadd, 1) := by decide +kernel
theorem dX4_asCake_26 : decode cX4_asCake 26 = .ok (.ireturn, 1) := by decide +kernel
theorem dX4_asHerring_0 : decode cX4_asHerring 0 = .ok (.aload_n 0, 1) := by decide +kernel
theorem dX4_asHerring_1 : decode cX4_asHerring 1 = .ok (.dup, 1) := by decide +kernel
theorem dX4_asHerring_2 : decode cX4_asHerring 2 = .ok (.getfield 221, 3) := by decide +kernel
theorem dX4_asHerring_5 : decode cX4_asHerring 5 = .ok (.ldc2_w 230, 3) := by decide +kernel
theorem dX4_asHerring_8 : decode cX4_asHerring 8 = .ok (.ladd, 1) := by decide +kernel
theorem dX4_asHerring_9 : decode cX4_asHerring 9 = .ok (.putfield 221, 3) := by decide +kernel
theorem dX4_asHerring_12 : decode cX4_asHerring 12 = .ok (.aload_n 0, 1) := by decide +kernel
theorem dX4_asHerring_13 : decode cX4_asHerring 13 = .ok (.iload_n 1, 1) := by decide +kernel
theorem dX4_asHerring_14 : decode cX4_asHerring 14 = .ok (.invokevirtual 196, 3) := by decide +kernel
theorem dX4_asHerring_17 : decode cX4_asHerring 17 = .ok (.aload_n 0, 1) := by decide +kernel
theorem dX4_asHerring_18 : decode cX4_asHerring 18 = .ok (.getfield 19, 3) := by decide +kernel
theorem dX4_asHerring_21 : decode cX4_asHerring 21 = .ok (.iload_n 1, 1) := by decide +kernel
theorem dX4_asHerring_22 : decode cX4_asHerring 22 = .ok (.iconst 1, 1) := by decide +kernel
theorem dX4_asHerring_23 : decode cX4_asHerring 23 = .ok (.invokevirtual 102, 3) := by decide +kernel
theorem dX4_asHerring_26 : decode cX4_asHerring 26 = .ok (.isub, 1) := by decide +kernel
theorem dX4_asHerring_27 : decode cX4_asHerring 27 = .ok (.ireturn, 1) := by decide +kernel
theorem dX4_asBride_0 : decode cX4_asBride 0 = .ok (.aload_n 0, 1) := by decide +kernel
theorem dX4_asBride_1 : decode cX4_asBride 1 = .ok (.dup, 1) := by decide +kernel
theorem dX4_asBride_2 : decode cX4_asBride 2 = .ok (.getfield 221, 3) := by decide +kernel
theorem dX4_asBride_5 : decode cX4_asBride 5 = .ok (.ldc2_w 232, 3) := by decide +kernel
theorem dX4_asBride_8 : decode cX4_asBride 8 = .ok (.ladd, 1) := by decide +kernel
theorem dX4_asBride_9 : decode cX4_asBride 9 = .ok (.putfield 221, 3) := by decide +kernel
theorem dX4_asBride_12 : decode cX4_asBride 12 = .ok (.aload_n 0, 1) := by decide +kernel
theorem dX4_asBride_13 : decode cX4_asBride 13 = .ok (.iload_n 1, 1) := by decide +kernel
theorem dX4_asBride_14 : decode cX4_asBride 14 = .ok (.invokevirtual 199, 3) := by decide +kernel
theorem dX4_asBride_17 : decode cX4_asBride 17 = .ok (.iconst 2, 1) := by decide +kernel
theorem dX4_asBride_18 : decode cX4_asBride 18 = .ok (.imul, 1) := by decide +kernel
theorem dX4_asBride_19 : decode cX4_asBride 19 = .ok (.ireturn, 1) := by decide +kernel
theorem dX4_asWidow_0 : decode cX4_asWidow 0 = .ok (.aload_n 0, 1) := by decide +kernel
theorem dX4_asWidow_1 : decode cX4_asWidow 1 = .ok (.dup, 1) := by decide +kernel
theorem dX4_asWidow_2 : decode cX4_asWidow 2 = .ok (.getfield 221, 3) := by decide +kernel
theorem dX4_asWidow_5 : decode cX4_asWidow 5 = .ok (.ldc2_w 234, 3) := by decide +kernel
theorem dX4_asWidow_8 : decode cX4_asWidow 8 = .ok (.ladd, 1) := by decide +kernel
theorem dX4_asWidow_9 : decode cX4_asWidow 9 = .ok (.putfield 221, 3) := by decide +kernel
theorem dX4_asWidow_12 : decode cX4_asWidow 12 = .ok (.aload_n 0, 1) := by decide +kernel
theorem dX4_asWidow_13 : decode cX4_asWidow 13 = .ok (.iload_n 1, 1) := by decide +kernel
theorem dX4_asWidow_14 : decode cX4_asWidow 14 = .ok (.invokevirtual 202, 3) := by decide +kernel
theorem dX4_asWidow_17 : decode cX4_asWidow 17 = .ok (.iload_n 1, 1) := by decide +kernel
theorem dX4_asWidow_18 : decode cX4_asWidow 18 = .ok (.iadd, 1) := by decide +kernel
theorem dX4_asWidow_19 : decode cX4_asWidow 19 = .ok (.ireturn, 1) := by decide +kernel
theorem dX4_asSniff_0 : decode cX4_asSniff 0 = .ok (.aload_n 0, 1) := by decide +kernel
theorem dX4_asSniff_1 : decode cX4_asSniff 1 = .ok (.dup, 1) := by decide +kernel
theorem dX4_asSniff_2 : decode cX4_asSniff 2 = .ok (.getfield 221, 3) := by decide +kernel
theorem dX4_asSniff_5 : decode cX4_asSniff 5 = .ok (.ldc2_w 236, 3) := by decide +kernel
theorem dX4_asSniff_8 : decode cX4_asSniff 8 = .ok (.ladd, 1) := by decide +kernel
theorem dX4_asSniff_9 : decode cX4_asSniff 9 = .ok (.putfield 221, 3) := by decide +kernel
theorem dX4_asSniff_12 : decode cX4_asSniff 12 = .ok (.aload_n 0, 1) := by decide +kernel
theorem dX4_asSniff_13 : decode cX4_asSniff 13 = .ok (.iload_n 1, 1) := by decide +kernel
theorem dX4_asSniff_14 : decode cX4_asSniff 14 = .ok (.invokevirtual 196, 3) := by decide +kernel
theorem dX4_asSniff_17 : decode cX4_asSniff 17 = .ok (.aload_n 0, 1) := by decide +kernel
theorem dX4_asSniff_18 : decode cX4_asSniff 18 = .ok (.getfield 29, 3) := by decide +kernel
theorem dX4_asSniff_21 : decode cX4_asSniff 21 = .ok (.invokevirtual 137, 3) := by decide +kernel
theorem dX4_asSniff_24 : decode cX4_asSniff 24 = .ok (.iadd, 1) := by decide +kernel
theorem dX4_asSniff_25 : decode cX4_asSniff 25 = .ok (.ireturn, 1) := by decide +kernel
theorem dX5_init_0 : decode cX5_init 0 = .ok (.aload_n 0, 1) := by decide +kernel
theorem dX5_init_1 : decode cX5_init 1 = .ok (.invokespecial 1, 3) := by decide +kernel
theorem dX5_init_4 : decode cX5_init 4 = .ok (.aload_n 0, 1) := by decide +kernel
theorem dX5_init_5 : decode cX5_init 5 = .ok (.sipush 180, 3) := by decide +kernel
theorem dX5_init_8 : decode cX5_init 8 = .ok (.newarray .int, 2) := by decide +kernel
theorem dX5_init_10 : decode cX5_init 10 = .ok (.putfield 7, 3) := by decide +kernel
theorem dX5_init_13 : decode cX5_init 13 = .ok (.aload_n 0, 1) := by decide +kernel
theorem dX5_init_14 : decode cX5_init 14 = .ok (.bipush 43, 2) := by decide +kernel
theorem dX5_init_16 : decode cX5_init 16 = .ok (.newarray .int, 2) := by decide +kernel
theorem dX5_init_18 : decode cX5_init 18 = .ok (.putfield 13, 3) := by decide +kernel
theorem dX5_init_21 : decode cX5_init 21 = .ok (.aload_n 0, 1) := by decide +kernel
theorem dX5_init_22 : decode cX5_init 22 = .ok (.bipush 43, 2) := by decide +kernel
theorem dX5_init_24 : decode cX5_init 24 = .ok (.newarray .int, 2) := by decide +kernel
theorem dX5_init_26 : decode cX5_init 26 = .ok (.putfield 16, 3) := by decide +kernel
theorem dX5_init_29 : decode cX5_init 29 = .ok (.aload_n 0, 1) := by decide +kernel
theorem dX5_init_30 : decode cX5_init 30 = .ok (.sipush 155, 3) := by decide +kernel
theorem dX5_init_33 : decode cX5_init 33 = .ok (.newarray .int, 2) := by decide +kernel
theorem dX5_init_35 : decode cX5_init 35 = .ok (.putfield 19, 3) := by decide +kernel
theorem dX5_init_38 : decode cX5_init 38 = .ok (.aload_n 0, 1) := by decide +kernel
theorem dX5_init_39 : decode cX5_init 39 = .ok (.sipush 310, 3) := by decide +kernel
theorem dX5_init_42 : decode cX5_init 42 = .ok (.newarray .int, 2) := by decide +kernel
theorem dX5_init_44 : decode cX5_init 44 = .ok (.putfield 22, 3) := by decide +kernel
theorem dX5_init_47 : decode cX5_init 47 = .ok (.aload_n 0, 1) := by decide +kernel
theorem dX5_init_48 : decode cX5_init 48 = .ok (.iconst 2, 1) := by decide +kernel
theorem dX5_init_49 : decode cX5_init 49 = .ok (.newarray .boolean, 2) := by decide +kernel
theorem dX5_init_51 : decode cX5_init 51 = .ok (.putfield 25, 3) := by decide +kernel
theorem dX5_init_54 : decode cX5_init 54 = .ok (.aload_n 0, 1) := by decide +kernel
theorem dX5_init_55 : decode cX5_init 55 = .ok (.bipush 6, 2) := by decide +kernel
theorem dX5_init_57 : decode cX5_init 57 = .ok (.newarray .int, 2) := by decide +kernel
theorem dX5_init_59 : decode cX5_init 59 = .ok (.putfield 29, 3) := by decide +kernel
theorem dX5_init_62 : decode cX5_init 62 = .ok (.aload_n 0, 1) := by decide +kernel
theorem dX5_init_63 : decode cX5_init 63 = .ok (.bipush (-9), 2) := by decide +kernel
theorem dX5_init_65 : decode cX5_init 65 = .ok (.putfield 32, 3) := by decide +kernel
theorem dX5_init_68 : decode cX5_init 68 = .ok (.aload_n 0, 1) := by decide +kernel
theorem dX5_init_69 : decode cX5_init 69 = .ok (.bipush 14, 2) := by decide +kernel
theorem dX5_init_71 : decode cX5_init 71 = .ok (.newarray .int, 2) := by decide +kernel
theorem dX5_init_73 : decode cX5_init 73 = .ok (.putfield 36, 3) := by decide +kernel
theorem dX5_init_76 : decode cX5_init 76 = .ok (.aload_n 0, 1) := by decide +kernel
theorem dX5_init_77 : decode cX5_init 77 = .ok (.bipush 64, 2) := by decide +kernel
theorem dX5_init_79 : decode cX5_init 79 = .ok (.newarray .int, 2) := by decide +kernel
theorem dX5_init_81 : decode cX5_init 81 = .ok (.putfield 39, 3) := by decide +kernel
theorem dX5_init_84 : decode cX5_init 84 = .ok (.aload_n 0, 1) := by decide +kernel
theorem dX5_init_85 : decode cX5_init 85 = .ok (.invokevirtual 42, 3) := by decide +kernel
theorem dX5_init_88 : decode cX5_init 88 = .ok (.pop, 1) := by decide +kernel
theorem dX5_init_89 : decode cX5_init 89 = .ok (.aload_n 0, 1) := by decide +kernel
theorem dX5_init_90 : decode cX5_init 90 = .ok (.invokevirtual 46, 3) := by decide +kernel
theorem dX5_init_93 : decode cX5_init 93 = .ok (.return_, 1) := by decide +kernel
theorem dX5_in_0 : decode cX5_in 0 = .ok (.iload_n 0, 1) := by decide +kernel
theorem dX5_in_1 : decode cX5_in 1 = .ok (.iload_n 1, 1) := by decide +kernel
theorem dX5_in_2 : decode cX5_in 2 = .ok (.if_icmp .lt 12, 3) := by decide +kernel
theorem dX5_in_5 : decode cX5_in 5 = .ok (.iload_n 0, 1) := by decide +kernel
theorem dX5_in_6 : decode cX5_in 6 = .ok (.iload_n 2, 1) := by decide +kernel
theorem dX5_in_7 : decode cX5_in 7 = .ok (.if_icmp .gt 7, 3) := by decide +kernel
theorem dX5_in_10 : decode cX5_in 10 = .ok (.iconst 1, 1) := by decide +kernel
theorem dX5_in_11 : decode cX5_in 11 = .ok (.goto 4, 3) := by decide +kernel
theorem dX5_in_14 : decode cX5_in 14 = .ok (.iconst 0, 1) := by decide +kernel
theorem dX5_in_15 : decode cX5_in 15 = .ok (.ireturn, 1) := by decide +kernel
theorem dX5_isOven_0 : decode cX5_isOven 0 = .ok (.iload_n 1, 1) := by decide +kernel
theorem dX5_isOven_1 : decode cX5_isOven 1 = .ok (.iconst 0, 1) := by decide +kernel
theorem dX5_isOven_2 : decode cX5_isOven 2 = .ok (.aload_n 0, 1) := by decide +kernel
theorem dX5_isOven_3 : decode cX5_isOven 3 = .ok (.getfield 13, 3) := by decide +kernel
theorem dX5_isOven_6 : decode cX5_isOven 6 = .ok (.iconst 0, 1) := by decide +kernel
theorem dX5_isOven_7 : decode cX5_isOven 7 = .ok (.iaload, 1) := by decide +kernel
theorem dX5_isOven_8 : decode cX5_isOven 8 = .ok (.iconst 1, 1) := by decide +kernel
theorem dX5_isOven_9 : decode cX5_isOven 9 = .ok (.isub, 1) := by decide +kernel
theorem dX5_isOven_10 : decode cX5_isOven 10 = .ok (.invokestatic 49, 3) := by decide +kernel
theorem dX5_isOven_13 : decode cX5_isOven 13 = .ok (.ireturn, 1) := by decide +kernel
theorem dX5_isDough_0 : decode cX5_isDough 0 = .ok (.iload_n 1, 1) := by decide +kernel
theorem dX5_isDough_1 : decode cX5_isDough 1 = .ok (.iconst 0, 1) := by decide +kernel
theorem dX5_isDough_2 : decode cX5_isDough 2 = .ok (.aload_n 0, 1) := by decide +kernel
theorem dX5_isDough_3 : decode cX5_isDough 3 = .ok (.getfield 13, 3) := by decide +kernel
theorem dX5_isDough_6 : decode cX5_isDough 6 = .ok (.iconst 1, 1) := by decide +kernel
theorem dX5_isDough_7 : decode cX5_isDough 7 = .ok (.iaload, 1) := by decide +kernel
theorem dX5_isDough_8 : decode cX5_isDough 8 = .ok (.iconst 1, 1) := by decide +kernel
theorem dX5_isDough_9 : decode cX5_isDough 9 = .ok (.isub, 1) := by decide +kernel
theorem dX5_isDough_10 : decode cX5_isDough 10 = .ok (.invokestatic 49, 3) := by decide +kernel
theorem dX5_isDough_13 : decode cX5_isDough 13 = .ok (.ireturn, 1) := by decide +kernel
theorem dX5_isShut_0 : decode cX5_isShut 0 = .ok (.aload_n 0, 1) := by decide +kernel
theorem dX5_isShut_1 : decode cX5_isShut 1 = .ok (.getfield 19, 3) := by decide +kernel
theorem dX5_isShut_4 : decode cX5_isShut 4 = .ok (.bipush 12, 2) := by decide +kernel
theorem dX5_isShut_6 : decode cX5_isShut 6 = .ok (.iaload, 1) := by decide +kernel
theorem dX5_isShut_7 : decode cX5_isShut 7 = .ok (.iload_n 1, 1) := by decide +kernel
theorem dX5_isShut_8 : decode cX5_isShut 8 = .ok (.ishr, 1) := by decide +kernel
theorem dX5_isShut_9 : decode cX5_isShut 9 = .ok (.iconst 1, 1) := by decide +kernel
theorem dX5_isShut_10 : decode cX5_isShut 10 = .ok (.iand, 1) := by decide +kernel
theorem dX5_isShut_11 : decode cX5_isShut 11 = .ok (.iconst 1, 1) := by decide +kernel
theorem dX5_isShut_12 : decode cX5_isShut 12 = .ok (.if_icmp .ne 7, 3) := by decide +kernel
theorem dX5_isShut_15 : decode cX5_isShut 15 = .ok (.iconst 1, 1) := by decide +kernel
theorem dX5_isShut_16 : decode cX5_isShut 16 = .ok (.goto 4, 3) := by decide +kernel
theorem dX5_isShut_19 : decode cX5_isShut 19 = .ok (.iconst 0, 1) := by decide +kernel
theorem dX5_isShut_20 : decode cX5_isShut 20 = .ok (.ireturn, 1) := by decide +kernel
theorem dX5_type_0 : decode cX5_type 0 = .ok (.iload_n 1, 1) := by decide +kernel
theorem dX5_type_1 : decode cX5_type 1 = .ok (.iconst 0, 1) := by decide +kernel
theorem dX5_type_2 : decode cX5_type 2 = .ok (.sipush 255, 3) := by decide +kernel
theorem dX5_type_5 : decode cX5_type 5 = .ok (.invokestatic 49, 3) := by decide +kernel
theorem dX5_type_8 : decode cX5_type 8 = .ok (.ifCond .ne 5, 3) := by decide +kernel
theorem dX5_type_11 : decode cX5_type 11 = .ok (.iconst (-1), 1) := by decide +kernel
theorem dX5_type_12 : decode cX5_type 12 = .ok (.ireturn, 1) := by decide +kernel
theorem dX5_type_13 : decode cX5_type 13 = .ok (.aload_n 0, 1) := by decide +kernel
theorem dX5_type_14 : decode cX5_type 14 = .ok (.getfield 53, 3) := by decide +kernel
theorem dX5_type_17 : decode cX5_type 17 = .ok (.sipush 180, 3) := by decide +kernel
theorem dX5_type_20 : decode cX5_type 20 = .ok (.if_icmp .ne 6, 3) := by decide +kernel
theorem dX5_type_23 : decode cX5_type 23 = .ok (.bipush (-3), 2) := by decide +kernel
theorem dX5_type_25 : decode cX5_type 25 = .ok (.ireturn, 1) := by decide +kernel
theorem dX5_type_26 : decode cX5_type 26 = .ok (.aload_n 0, 1) := by decide +kernel
theorem dX5_type_27 : decode cX5_type 27 = .ok (.getfield 7, 3) := by decide +kernel
theorem dX5_type_30 : decode cX5_type 30 = .ok (.aload_n 0, 1) := by decide +kernel
theorem dX5_type_31 : decode cX5_type 31 = .ok (.getfield 53, 3) := by decide +kernel
theorem dX5_type_34 : decode cX5_type 34 = .ok (.iload_n 1, 1) := by decide +kernel
theorem dX5_type_35 : decode cX5_type 35 = .ok (.iastore, 1) := by decide +kernel
theorem dX5_type_36 : decode cX5_type 36 = .ok (.aload_n 0, 1) := by decide +kernel
theorem dX5_type_37 : decode cX5_type 37 = .ok (.dup, 1) := by decide +kernel
theorem dX5_type_38 : decode cX5_type 38 = .ok (.getfield 53, 3) := by decide +kernel
theorem dX5_type_41 : decode cX5_type 41 = .ok (.iconst 1, 1) := by decide +kernel
theorem dX5_type_42 : decode cX5_type 42 = .ok (.iadd, 1) := by decide +kernel
theorem dX5_type_43 : decode cX5_type 43 = .ok (.putfield 53, 3) := by decide +kernel
theorem dX5_type_46 : decode cX5_type 46 = .ok (.aload_n 0, 1) := by decide +kernel
theorem dX5_type_47 : decode cX5_type 47 = .ok (.getfield 53, 3) := by decide +kernel
theorem dX5_type_50 : decode cX5_type 50 = .ok (.ireturn, 1) := by decide +kernel
theorem dX5_clear_0 : decode cX5_clear 0 = .ok (.aload_n 0, 1) := by decide +kernel
theorem dX5_clear_1 : decode cX5_clear 1 = .ok (.getfield 53, 3) := by decide +kernel
theorem dX5_clear_4 : decode cX5_clear 4 = .ok (.istore_n 1, 1) := by decide +kernel
theorem dX5_clear_5 : decode cX5_clear 5 = .ok (.aload_n 0, 1) := by decide +kernel
theorem dX5_clear_6 : decode cX5_clear 6 = .ok (.iconst 0, 1) := by decide +kernel
theorem dX5_clear_7 : decode cX5_clear 7 = .ok (.putfield 53, 3) := by decide +kernel
theorem dX5_clear_10 : decode cX5_clear 10 = .ok (.iload_n 1, 1) := by decide +kernel
theorem dX5_clear_11 : decode cX5_clear 11 = .ok (.ireturn, 1) := by decide +kernel
theorem dX5_letterAt_0 : decode cX5_letterAt 0 = .ok (.iload_n 1, 1) := by decide +kernel
theorem dX5_letterAt_1 : decode cX5_letterAt 1 = .ok (.aload_n 0, 1) := by decide +kernel
theorem dX5_letterAt_2 : decode cX5_letterAt 2 = .ok (.getfield 53, 3) := by decide +kernel
theorem dX5_letterAt_5 : decode cX5_letterAt 5 = .ok (.if_icmp .ge 12, 3) := by decide +kernel
theorem dX5_letterAt_8 : decode cX5_letterAt 8 = .ok (.aload_n 0, 1) := by decide +kernel
theorem dX5_letterAt_9 : decode cX5_letterAt 9 = .ok (.getfield 7, 3) := by decide +kernel
theorem dX5_letterAt_12 : decode cX5_letterAt 12 = .ok (.iload_n 1, 1) := by decide +kernel
theorem dX5_letterAt_13 : decode cX5_letterAt 13 = .ok (.iaload, 1) := by decide +kernel
theorem dX5_letterAt_14 : decode cX5_letterAt 14 = .ok (.goto 4, 3) := by decide +kernel
theorem dX5_letterAt_17 : decode cX5_letterAt 17 = .ok (.iconst (-1), 1) := by decide +kernel
theorem dX5_letterAt_18 : decode cX5_letterAt 18 = .ok (.ireturn, 1) := by decide +kernel
theorem dX5_isLetter_0 : decode cX5_isLetter 0 = .ok (.iload_n 0, 1) := by decide +kernel
theorem dX5_isLetter_1 : decode cX5_isLetter 1 = .ok (.bipush 97, 2) := by decide +kernel
theorem dX5_isLetter_3 : decode cX5_isLetter 3 = .ok (.bipush 122, 2) := by decide +kernel
theorem dX5_isLetter_5 : decode cX5_isLetter 5 = .ok (.invokestatic 49, 3) := by decide +kernel
theorem dX5_isLetter_8 : decode cX5_isLetter 8 = .ok (.ireturn, 1) := by decide +kernel
theorem dX5_isDigit_0 : decode cX5_isDigit 0 = .ok (.iload_n 0, 1) := by decide +kernel
theorem dX5_isDigit_1 : decode cX5_isDigit 1 = .ok (.bipush 48, 2) := by decide +kernel
theorem dX5_isDigit_3 : decode cX5_isDigit 3 = .ok (.bipush 57, 2) := by decide +kernel
theorem dX5_isDigit_5 : decode cX5_isDigit 5 = .ok (.invokestatic 49, 3) := by decide +kernel
theorem dX5_isDigit_8 : decode cX5_isDigit 8 = .ok (.ireturn, 1) := by decide +kernel
theorem dX5_token_0 : decode cX5_token 0 = .ok (.aload_n 0, 1) := by decide +kernel
theorem dX5_token_1 : decode cX5_token 1 = .ok (.aload_n 0, 1) := by decide +kernel
theorem dX5_token_2 : decode cX5_token 2 = .ok (.getfield 56, 3) := by decide +kernel
theorem dX5_token_5 : decode cX5_token 5 = .ok (.invokevirtual 59, 3) := by decide +kernel
theorem dX5_token_8 : decode cX5_token 8 = .ok (.bipush 32, 2) := by decide +kernel
theorem dX5_token_10 : decode cX5_token 10 = .ok (.if_icmp .ne 16, 3) := by decide +kernel
theorem dX5_token_13 : decode cX5_token 13 = .ok (.aload_n 0, 1) := by decide +kernel
theorem dX5_token_14 : decode cX5_token 14 = .ok (.dup, 1) := by decide +kernel
theorem dX5_token_15 : decode cX5_token 15 = .ok (.getfield 56, 3) := by decide +kernel
theorem dX5_token_18 : decode cX5_token 18 = .ok (.iconst 1, 1) := by decide +kernel
theorem dX5_token_19 : decode cX5_token 19 = .ok (.iadd, 1) := by decide +kernel
theorem dX5_token_20 : decode cX5_token 20 = .ok (.putfield 56, 3) := by decide +kernel
theorem dX5_token_23 : decode cX5_token 23 = .ok (.goto (-23), 3) := by decide +kernel
theorem dX5_token_26 : decode cX5_token 26 = .ok (.aload_n 0, 1) := by decide +kernel
theorem dX5_token_27 : decode cX5_token 27 = .ok (.aload_n 0, 1) := by decide +kernel
theorem dX5_token_28 : decode cX5_token 28 = .ok (.getfield 56, 3) := by decide +kernel
theorem dX5_token_31 : decode cX5_token 31 = .ok (.putfield 63, 3) := by decide +kernel
theorem dX5_token_34 : decode cX5_token 34 = .ok (.aload_n 0, 1) := by decide +kernel
theorem dX5_token_35 : decode cX5_token 35 = .ok (.aload_n 0, 1) := by decide +kernel
theorem dX5_token_36 : decode cX5_token 36 = .ok (.getfield 56, 3) := by decide +kernel
theorem dX5_token_39 : decode cX5_token 39 = .ok (.invokevirtual 59, 3) := by decide +kernel
theorem dX5_token_42 : decode cX5_token 42 = .ok (.istore_n 1, 1) := by decide +kernel
theorem dX5_token_43 : decode cX5_token 43 = .ok (.aload_n 0, 1) := by decide +kernel
theorem dX5_token_44 : decode cX5_token 44 = .ok (.iload_n 1, 1) := by decide +kernel
theorem dX5_token_45 : decode cX5_token 45 = .ok (.ifCond .ge 7, 3) := by decide +kernel
theorem dX5_token_48 : decode cX5_token 48 = .ok (.iconst 0, 1) := by decide +kernel
theorem dX5_token_49 : decode cX5_token 49 = .ok (.goto 36, 3) := by decide +kernel
theorem dX5_token_52 : decode cX5_token 52 = .ok (.iload_n 1, 1) := by decide +kernel
theorem dX5_token_53 : decode cX5_token 53 = .ok (.invokestatic 66, 3) := by decide +kernel
theorem dX5_token_56 : decode cX5_token 56 = .ok (.ifCond .eq 7, 3) := by decide +kernel
theorem dX5_token_59 : decode cX5_token 59 = .ok (.iconst 1, 1) := by decide +kernel
theorem dX5_token_60 : decode cX5_token 60 = .ok (.goto 25, 3) := by decide +kernel
theorem dX5_token_63 : decode cX5_token 63 = .ok (.iload_n 1, 1) := by decide +kernel
theorem dX5_token_64 : decode cX5_token 64 = .ok (.invokestatic 70, 3) := by decide +kernel
theorem dX5_token_67 : decode cX5_token 67 = .ok (.ifCond .eq 7, 3) := by decide +kernel
theorem dX5_token_70 : decode cX5_token 70 = .ok (.iconst 2, 1) := by decide +kernel
theorem dX5_token_71 : decode cX5_token 71 = .ok (.goto 14, 3) := by decide +kernel
theorem dX5_token_74 : decode cX5_token 74 = .ok (.iload_n 1, 1) := by decide +kernel
theorem dX5_token_75 : decode cX5_token 75 = .ok (.bipush 59, 2) := by decide +kernel
theorem dX5_token_77 : decode cX5_token 77 = .ok (.if_icmp .ne 7, 3) := by decide +kernel
theorem dX5_token_80 : decode cX5_token 80 = .ok (.iconst 3, 1) := by decide +kernel
theorem dX5_token_81 : decode cX5_token 81 = .ok (.goto 4, 3) := by decide +kernel
theorem dX5_token_84 : decode cX5_token 84 = .ok (.iconst 4, 1) := by decide +kernel
theorem dX5_token_85 : decode cX5_token 85 = .ok (.putfield 73, 3) := by decide +kernel
theorem dX5_token_88 : decode cX5_token 88 = .ok (.aload_n 0, 1) := by decide +kernel
theorem dX5_token_89 : decode cX5_token 89 = .ok (.iload_n 1, 1) := by decide +kernel
theorem dX5_token_90 : decode cX5_token 90 = .ok (.putfield 76, 3) := by decide +kernel
theorem dX5_token_93 : decode cX5_token 93 = .ok (.aload_n 0, 1) := by decide +kernel
theorem dX5_token_94 : decode cX5_token 94 = .ok (.dup, 1) := by decide +kernel
theorem dX5_token_95 : decode cX5_token 95 = .ok (.getfield 56, 3) := by decide +kernel
theorem dX5_token_98 : decode cX5_token 98 = .ok (.aload_n 0, 1) := by decide +kernel
theorem dX5_token_99 : decode cX5_token 99 = .ok (.getfield 73, 3) := by decide +kernel
theorem dX5_token_102 : decode cX5_token 102 = .ok (.ifCond .ne 7, 3) := by decide +kernel
theorem dX5_token_105 : decode cX5_token 105 = .ok (.iconst 0, 1) := by decide +kernel
theorem dX5_token_106 : decode cX5_token 106 = .ok (.goto 4, 3) := by decide +kernel
theorem dX5_token_109 : decode cX5_token 109 = .ok (.iconst 1, 1) := by decide +kernel
theorem dX5_token_110 : decode cX5_token 110 = .ok (.iadd, 1) := by decide +kernel
theorem dX5_token_111 : decode cX5_token 111 = .ok (.putfield 56, 3) := by decide +kernel
theorem dX5_token_114 : decode cX5_token 114 = .ok (.aload_n 0, 1) := by decide +kernel
theorem dX5_token_115 : decode cX5_token 115 = .ok (.getfield 73, 3) := by decide +kernel
theorem dX5_token_118 : decode cX5_token 118 = .ok (.iconst 1, 1) := by decide +kernel
theorem dX5_token_119 : decode cX5_token 119 = .ok (.if_icmp .ne 35, 3) := by decide +kernel
theorem dX5_token_122 : decode cX5_token 122 = .ok (.aload_n 0, 1) := by decide +kernel
theorem dX5_token_123 : decode cX5_token 123 = .ok (.aload_n 0, 1) := by decide +kernel
theorem dX5_token_124 : decode cX5_token 124 = .ok (.getfield 56, 3) := by decide +kernel
theorem dX5_token_127 : decode cX5_token 127 = .ok (.invokevirtual 59, 3) := by decide +kernel
theorem dX5_token_130 : decode cX5_token 130 = .ok (.invokestatic 66, 3) := by decide +kernel
theorem dX5_token_133 : decode cX5_token 133 = .ok (.ifCond .eq 21, 3) := by decide +kernel
theorem dX5_token_136 : decode cX5_token 136 = .ok (.aload_n 0, 1) := by decide +kernel
theorem dX5_token_137 : decode cX5_token 137 = .ok (.iconst 0, 1) := by decide +kernel
theorem dX5_token_138 : decode cX5_token 138 = .ok (.putfield 76, 3) := by decide +kernel
theorem dX5_token_141 : decode cX5_token 141 = .ok (.aload_n 0, 1) := by decide +kernel
theorem dX5_token_142 : decode cX5_token 142 = .ok (.dup, 1) := by decide +kernel
theorem dX5_token_143 : decode cX5_token 143 = .ok (.getfield 56, 3) := by decide +kernel
theorem dX5_token_146 : decode cX5_token 146 = .ok (.iconst 1, 1) := by decide +kernel
theorem dX5_token_147 : decode cX5_token 147 = .ok (.iadd, 1) := by decide +kernel
theorem dX5_token_148 : decode cX5_token 148 = .ok (.putfield 56, 3) := by decide +kernel
theorem dX5_token_151 : decode cX5_token 151 = .ok (.goto (-37), 3) := by decide +kernel
theorem dX5_token_154 : decode cX5_token 154 = .ok (.aload_n 0, 1) := by decide +kernel
theorem dX5_token_155 : decode cX5_token 155 = .ok (.getfield 73, 3) := by decide +kernel
theorem dX5_token_158 : decode cX5_token 158 = .ok (.iconst 2, 1) := by decide +kernel
theorem dX5_token_159 : decode cX5_token 159 = .ok (.if_icmp .ne 83, 3) := by decide +kernel
theorem dX5_token_162 : decode cX5_token 162 = .ok (.aload_n 0, 1) := by decide +kernel
theorem dX5_token_163 : decode cX5_token 163 = .ok (.iload_n 1, 1) := by decide +kernel
theorem dX5_token_164 : decode cX5_token 164 = .ok (.bipush 48, 2) := by decide +kernel
theorem dX5_token_166 : decode cX5_token 166 = .ok (.isub, 1) := by decide +kernel
theorem dX5_token_167 : decode cX5_token 167 = .ok (.putfield 76, 3) := by decide +kernel
theorem dX5_token_170 : decode cX5_token 170 = .ok (.aload_n 0, 1) := by decide +kernel
theorem dX5_token_171 : decode cX5_token 171 = .ok (.aload_n 0, 1) := by decide +kernel
theorem dX5_token_172 : decode cX5_token 172 = .ok (.getfield 56, 3) := by decide +kernel
theorem dX5_token_175 : decode cX5_token 175 = .ok (.invokevirtual 59, 3) := by decide +kernel
theorem dX5_token_178 : decode cX5_token 178 = .ok (.invokestatic 70, 3) := by decide +kernel
theorem dX5_token_181 : decode cX5_token 181 = .ok (.ifCond .eq 61, 3) := by decide +kernel
theorem dX5_token_184 : decode cX5_token 184 = .ok (.aload_n 0, 1) := by decide +kernel
theorem dX5_token_185 : decode cX5_token 185 = .ok (.iload_n 1, 1) := by decide +kernel
theorem dX5_token_186 : decode cX5_token 186 = .ok (.bipush 48, 2) := by decide +kernel
theorem dX5_token_188 : decode cX5_token 188 = .ok (.if_icmp .eq 12, 3) := by decide +kernel
theorem dX5_token_191 : decode cX5_token 191 = .ok (.aload_n 0, 1) := by decide +kernel
theorem dX5_token_192 : decode cX5_token 192 = .ok (.getfield 76, 3) := by decide +kernel
theorem dX5_token_195 : decode cX5_token 195 = .ok (.bipush 99, 2) := by decide +kernel
theorem dX5_token_197 : decode cX5_token 197 = .ok (.if_icmp .le 9, 3) := by decide +kernel
theorem dX5_token_200 : decode cX5_token 200 = .ok (.sipush 1000, 3) := by decide +kernel
theorem dX5_token_203 : decode cX5_token 203 = .ok (.goto 23, 3) := by decide +kernel
theorem dX5_token_206 : decode cX5_token 206 = .ok (.bipush 10, 2) := by decide +kernel
theorem dX5_token_208 : decode cX5_token 208 = .ok (.aload_n 0, 1) := by decide +kernel
theorem dX5_token_209 : decode cX5_token 209 = .ok (.getfield 76, 3) := by decide +kernel
theorem dX5_token_212 : decode cX5_token 212 = .ok (.imul, 1) := by decide +kernel
theorem dX5_token_213 : decode cX5_token 213 = .ok (.aload_n 0, 1) := by decide +kernel
theorem dX5_token_214 : decode cX5_token 214 = .ok (.getfield 7, 3) := by decide +kernel
theorem dX5_token_217 : decode cX5_token 217 = .ok (.aload_n 0, 1) := by decide +kernel
theorem dX5_token_218 : decode cX5_token 218 = .ok (.getfield 56, 3) := by decide +kernel
theorem dX5_token_221 : decode cX5_token 221 = .ok (.iaload, 1) := by decide +kernel
theorem dX5_token_222 : decode cX5_token 222 = .ok (.iadd, 1) := by decide +kernel
theorem dX5_token_223 : decode cX5_token 223 = .ok (.bipush 48, 2) := by decide +kernel
theorem dX5_token_225 : decode cX5_token 225 = .ok (.isub, 1) := by decide +kernel
theorem dX5_token_226 : decode cX5_token 226 = .ok (.putfield 76, 3) := by decide +kernel
theorem dX5_token_229 : decode cX5_token 229 = .ok (.aload_n 0, 1) := by decide +kernel
theorem dX5_token_230 : decode cX5_token 230 = .ok (.dup, 1) := by decide +kernel
theorem dX5_token_231 : decode cX5_token 231 = .ok (.getfield 56, 3) := by decide +kernel
theorem dX5_token_234 : decode cX5_token 234 = .ok (.iconst 1, 1) := by decide +kernel
theorem dX5_token_235 : decode cX5_token 235 = .ok (.iadd, 1) := by decide +kernel
theorem dX5_token_236 : decode cX5_token 236 = .ok (.putfield 56, 3) := by decide +kernel
theorem dX5_token_239 : decode cX5_token 239 = .ok (.goto (-69), 3) := by decide +kernel
theorem dX5_token_242 : decode cX5_token 242 = .ok (.return_, 1) := by decide +kernel
theorem dX5_number_0 : decode cX5_number 0 = .ok (.aload_n 0, 1) := by decide +kernel
theorem dX5_number_1 : decode cX5_number 1 = .ok (.invokevirtual 79, 3) := by decide +kernel
theorem dX5_number_4 : decode cX5_number 4 = .ok (.aload_n 0, 1) := by decide +kernel
theorem dX5_number_5 : decode cX5_number 5 = .ok (.getfield 16, 3) := by decide +kernel
theorem dX5_number_8 : decode cX5_number 8 = .ok (.iload_n 1, 1) := by decide +kernel
theorem dX5_number_9 : decode cX5_number 9 = .ok (.aload_n 0, 1) := by decide +kernel
theorem dX5_number_10 : decode cX5_number 10 = .ok (.getfield 76, 3) := by decide +kernel
theorem dX5_number_13 : decode cX5_number 13 = .ok (.iastore, 1) := by decide +kernel
theorem dX5_number_14 : decode cX5_number 14 = .ok (.aload_n 0, 1) := by decide +kernel
theorem dX5_number_15 : decode cX5_number 15 = .ok (.getfield 73, 3) := by decide +kernel
theorem dX5_number_18 : decode cX5_number 18 = .ok (.iconst 2, 1) := by decide +kernel
theorem dX5_number_19 : decode cX5_number 19 = .ok (.if_icmp .ne 19, 3) := by decide +kernel
theorem dX5_number_22 : decode cX5_number 22 = .ok (.aload_n 0, 1) := by decide +kernel
theorem dX5_number_23 : decode cX5_number 23 = .ok (.getfield 76, 3) := by decide +kernel
theorem dX5_number_26 : decode cX5_number 26 = .ok (.iload_n 2, 1) := by decide +kernel
theorem dX5_number_27 : decode cX5_number 27 = .ok (.iload_n 3, 1) := by decide +kernel
theorem dX5_number_28 : decode cX5_number 28 = .ok (.invokestatic 49, 3) := by decide +kernel
theorem dX5_number_31 : decode cX5_number 31 = .ok (.ifCond .eq 7, 3) := by decide +kernel
theorem dX5_number_34 : decode cX5_number 34 = .ok (.iconst 1, 1) := by decide +kernel
theorem dX5_number_35 : decode cX5_number 35 = .ok (.goto 4, 3) := by decide +kernel
theorem dX5_number_38 : decode cX5_number 38 = .ok (.iconst 0, 1) := by decide +kernel
theorem dX5_number_39 : decode cX5_number 39 = .ok (.ireturn, 1) := by decide +kernel
theorem dX5_readsItem_0 : decode cX5_readsItem 0 = .ok (.aload_n 0, 1) := by decide +kernel
theorem dX5_readsItem_1 : decode cX5_readsItem 1 = .ok (.getfield 73, 3) := by decide +kernel
theorem dX5_readsItem_4 : decode cX5_readsItem 4 = .ok (.iconst 1, 1) := by decide +kernel
theorem dX5_readsItem_5 : decode cX5_readsItem 5 = .ok (.if_icmp .ne 10, 3) := by decide +kernel
theorem dX5_readsItem_8 : decode cX5_readsItem 8 = .ok (.aload_n 0, 1) := by decide +kernel
theorem dX5_readsItem_9 : decode cX5_readsItem 9 = .ok (.getfield 76, 3) := by decide +kernel
theorem dX5_readsItem_12 : decode cX5_readsItem 12 = .ok (.goto 4, 3) := by decide +kernel
theorem dX5_readsItem_15 : decode cX5_readsItem 15 = .ok (.iconst 0, 1) := by decide +kernel
theorem dX5_readsItem_16 : decode cX5_readsItem 16 = .ok (.istore_n 1, 1) := by decide +kernel
theorem dX5_readsItem_17 : decode cX5_readsItem 17 = .ok (.iload_n 1, 1) := by decide +kernel
theorem dX5_readsItem_18 : decode cX5_readsItem 18 = .ok (.bipush 111, 2) := by decide +kernel
theorem dX5_readsItem_20 : decode cX5_readsItem 20 = .ok (.if_icmp .ne 12, 3) := by decide +kernel
theorem dX5_readsItem_23 : decode cX5_readsItem 23 = .ok (.aload_n 0, 1) := by decide +kernel
theorem dX5_readsItem_24 : decode cX5_readsItem 24 = .ok (.getfield 16, 3) := by decide +kernel
theorem dX5_readsItem_27 : decode cX5_readsItem 27 = .ok (.iconst 0, 1) := by decide +kernel
theorem dX5_readsItem_28 : decode cX5_readsItem 28 = .ok (.iaload, 1) := by decide +kernel
theorem dX5_readsItem_29 : decode cX5_readsItem 29 = .ok (.goto 9, 3) := by decide +kernel
theorem dX5_readsItem_32 : decode cX5_readsItem 32 = .ok (.aload_n 0, 1) := by decide +kernel
theorem dX5_readsItem_33 : decode cX5_readsItem 33 = .ok (.getfield 16, 3) := by decide +kernel
theorem dX5_readsItem_36 : decode cX5_readsItem 36 = .ok (.iconst 1, 1) := by decide +kernel
theorem dX5_readsItem_37 : decode cX5_readsItem 37 = .ok (.iaload, 1) := by decide +kernel
theorem dX5_readsItem_38 : decode cX5_readsItem 38 = .ok (.istore_n 2, 1) := by decide +kernel
theorem dX5_readsItem_39 : decode cX5_readsItem 39 = .ok (.iload_n 1, 1) := by decide +kernel
theorem dX5_readsItem_40 : decode cX5_readsItem 40 = .ok (.bipush 111, 2) := by decide +kernel
theorem dX5_readsItem_42 : decode cX5_readsItem 42 = .ok (.if_icmp .ne 49, 3) := by decide +kernel
theorem dX5_readsItem_45 : decode cX5_readsItem 45 = .ok (.iload_n 2, 1) := by decide +kernel
theorem dX5_readsItem_46 : decode cX5_readsItem 46 = .ok (.iconst 5, 1) := by decide +kernel
theorem dX5_readsItem_47 : decode cX5_readsItem 47 = .ok (.if_icmp .eq 30, 3) := by decide +kernel
theorem dX5_readsItem_50 : decode cX5_readsItem 50 = .ok (.aload_n 0, 1) := by decide +kernel
theorem dX5_readsItem_51 : decode cX5_readsItem 51 = .ok (.iconst 3, 1) := by decide +kernel
theorem dX5_readsItem_52 : decode cX5_readsItem 52 = .ok (.iload_n 2, 1) := by decide +kernel
theorem dX5_readsItem_53 : decode cX5_readsItem 53 = .ok (.iadd, 1) := by decide +kernel
theorem dX5_readsItem_54 : decode cX5_readsItem 54 = .ok (.iconst 0, 1) := by decide +kernel
theorem dX5_readsItem_55 : decode cX5_readsItem 55 = .ok (.bipush 40, 2) := by decide +kernel
theorem dX5_readsItem_57 : decode cX5_readsItem 57 = .ok (.invokevirtual 82, 3) := by decide +kernel
theorem dX5_readsItem_60 : decode cX5_readsItem 60 = .ok (.ifCond .eq 17, 3) := by decide +kernel
theorem dX5_readsItem_63 : decode cX5_readsItem 63 = .ok (.aload_n 0, 1) := by decide +kernel
theorem dX5_readsItem_64 : decode cX5_readsItem 64 = .ok (.bipush 8, 2) := by decide +kernel
theorem dX5_readsItem_66 : decode cX5_readsItem 66 = .ok (.iload_n 2, 1) := by decide +kernel
theorem dX5_readsItem_67 : decode cX5_readsItem 67 = .ok (.iadd, 1) := by decide +kernel
theorem dX5_readsItem_68 : decode cX5_readsItem 68 = .ok (.iconst 0, 1) := by decide +kernel
theorem dX5_readsItem_69 : decode cX5_readsItem 69 = .ok (.bipush 18, 2) := by decide +kernel
theorem dX5_readsItem_71 : decode cX5_readsItem 71 = .ok (.invokevirtual 82, 3) := by decide +kernel
theorem dX5_readsItem_74 : decode cX5_readsItem 74 = .ok (.ifCond .ne 5, 3) := by decide +kernel
theorem dX5_readsItem_77 : decode cX5_readsItem 77 = .ok (.iconst 0, 1) := by decide +kernel
theorem dX5_readsItem_78 : decode cX5_readsItem 78 = .ok (.ireturn, 1) := by decide +kernel
theorem dX5_readsItem_79 : decode cX5_readsItem 79 = .ok (.aload_n 0, 1) := by decide +kernel
theorem dX5_readsItem_80 : decode cX5_readsItem 80 = .ok (.getfield 16, 3) := by decide +kernel
theorem dX5_readsItem_83 : decode cX5_readsItem 83 = .ok (.iconst 0, 1) := by decide +kernel
theorem dX5_readsItem_84 : decode cX5_readsItem 84 = .ok (.dup2, 1) := by decide +kernel
theorem dX5_readsItem_85 : decode cX5_readsItem 85 = .ok (.iaload, 1) := by decide +kernel
theorem dX5_readsItem_86 : decode cX5_readsItem 86 = .ok (.iconst 1, 1) := by decide +kernel
theorem dX5_readsItem_87 : decode cX5_readsItem 87 = .ok (.iadd, 1) := by decide +kernel
theorem dX5_readsItem_88 : decode cX5_readsItem 88 = .ok (.iastore, 1) := by decide +kernel
theorem dX5_readsItem_89 : decode cX5_readsItem 89 = .ok (.iconst 1, 1) := by decide +kernel
theorem dX5_readsItem_90 : decode cX5_readsItem 90 = .ok (.ireturn, 1) := by decide +kernel
theorem dX5_readsItem_91 : decode cX5_readsItem 91 = .ok (.iload_n 1, 1) := by decide +kernel
theorem dX5_readsItem_92 : decode cX5_readsItem 92 = .ok (.bipush 100, 2) := by decide +kernel
theorem dX5_readsItem_94 : decode cX5_readsItem 94 = .ok (.if_icmp .ne 87, 3) := by decide +kernel
theorem dX5_readsItem_97 : decode cX5_readsItem 97 = .ok (.iload_n 2, 1) := by decide +kernel
theorem dX5_readsItem_98 : decode cX5_readsItem 98 = .ok (.bipush 6, 2) := by decide +kernel
theorem dX5_readsItem_100 : decode cX5_readsItem 100 = .ok (.if_icmp .eq 81, 3) := by decide +kernel
theorem dX5_readsItem_103 : decode cX5_readsItem 103 = .ok (.aload_n 0, 1) := by decide +kernel
theorem dX5_readsItem_104 : decode cX5_readsItem 104 = .ok (.bipush 13, 2) := by decide +kernel
theorem dX5_readsItem_106 : decode cX5_readsItem 106 = .ok (.iload_n 2, 1) := by decide +kernel
theorem dX5_readsItem_107 : decode cX5_readsItem 107 = .ok (.iadd, 1) := by decide +kernel
theorem dX5_readsItem_108 : decode cX5_readsItem 108 = .ok (.iconst 0, 1) := by decide +kernel
theorem dX5_readsItem_109 : decode cX5_readsItem 109 = .ok (.bipush 9, 2) := by decide +kernel
theorem dX5_readsItem_111 : decode cX5_readsItem 111 = .ok (.invokevirtual 82, 3) := by decide +kernel
theorem dX5_readsItem_114 : decode cX5_readsItem 114 = .ok (.ifCond .eq 67, 3) := by decide +kernel
theorem dX5_readsItem_117 : decode cX5_readsItem 117 = .ok (.aload_n 0, 1) := by decide +kernel
theorem dX5_readsItem_118 : decode cX5_readsItem 118 = .ok (.bipush 19, 2) := by decide +kernel
theorem dX5_readsItem_120 : decode cX5_readsItem 120 = .ok (.iload_n 2, 1) := by decide +kernel
theorem dX5_readsItem_121 : decode cX5_readsItem 121 = .ok (.iadd, 1) := by decide +kernel
theorem dX5_readsItem_122 : decode cX5_readsItem 122 = .ok (.iconst 0, 1) := by decide +kernel
theorem dX5_readsItem_123 : decode cX5_readsItem 123 = .ok (.bipush 9, 2) := by decide +kernel
theorem dX5_readsItem_125 : decode cX5_readsItem 125 = .ok (.invokevirtual 82, 3) := by decide +kernel
theorem dX5_readsItem_128 : decode cX5_readsItem 128 = .ok (.ifCond .eq 53, 3) := by decide +kernel
theorem dX5_readsItem_131 : decode cX5_readsItem 131 = .ok (.aload_n 0, 1) := by decide +kernel
theorem dX5_readsItem_132 : decode cX5_readsItem 132 = .ok (.bipush 25, 2) := by decide +kernel
theorem dX5_readsItem_134 : decode cX5_readsItem 134 = .ok (.iload_n 2, 1) := by decide +kernel
theorem dX5_readsItem_135 : decode cX5_readsItem 135 = .ok (.iadd, 1) := by decide +kernel
theorem dX5_readsItem_136 : decode cX5_readsItem 136 = .ok (.iconst 1, 1) := by decide +kernel
theorem dX5_readsItem_137 : decode cX5_readsItem 137 = .ok (.bipush 99, 2) := by decide +kernel
theorem dX5_readsItem_139 : decode cX5_readsItem 139 = .ok (.invokevirtual 82, 3) := by decide +kernel
theorem dX5_readsItem_142 : decode cX5_readsItem 142 = .ok (.ifCond .eq 39, 3) := by decide +kernel
theorem dX5_readsItem_145 : decode cX5_readsItem 145 = .ok (.aload_n 0, 1) := by decide +kernel
theorem dX5_readsItem_146 : decode cX5_readsItem 146 = .ok (.bipush 31, 2) := by decide +kernel
theorem dX5_readsItem_148 : decode cX5_readsItem 148 = .ok (.iload_n 2, 1) := by decide +kernel
theorem dX5_readsItem_149 : decode cX5_readsItem 149 = .ok (.iadd, 1) := by decide +kernel
theorem dX5_readsItem_150 : decode cX5_readsItem 150 = .ok (.iconst 0, 1) := by decide +kernel
theorem dX5_readsItem_151 : decode cX5_readsItem 151 = .ok (.bipush 60, 2) := by decide +kernel
theorem dX5_readsItem_153 : decode cX5_readsItem 153 = .ok (.invokevirtual 82, 3) := by decide +kernel
theorem dX5_readsItem_156 : decode cX5_readsItem 156 = .ok (.ifCond .eq 25, 3) := by decide +kernel
theorem dX5_readsItem_159 : decode cX5_readsItem 159 = .ok (.aload_n 0, 1) := by decide +kernel
theorem dX5_readsItem_160 : decode cX5_readsItem 160 = .ok (.bipush 37, 2) := by decide +kernel
theorem dX5_readsItem_162 : decode cX5_readsItem 162 = .ok (.iload_n 2, 1) := by decide +kernel
theorem dX5_readsItem_163 : decode cX5_readsItem 163 = .ok (.iadd, 1) := by decide +kernel
theorem dX5_readsItem_164 : decode cX5_readsItem 164 = .ok (.aload_n 0, 1) := by decide +kernel
theorem dX5_readsItem_165 : decode cX5_readsItem 165 = .ok (.getfield 16, 3) := by decide +kernel
theorem dX5_readsItem_168 : decode cX5_readsItem 168 = .ok (.bipush 31, 2) := by decide +kernel
theorem dX5_readsItem_170 : decode cX5_readsItem 170 = .ok (.iload_n 2, 1) := by decide +kernel
theorem dX5_readsItem_171 : decode cX5_readsItem 171 = .ok (.iadd, 1) := by decide +kernel
theorem dX5_readsItem_172 : decode cX5_readsItem 172 = .ok (.iaload, 1) := by decide +kernel
theorem dX5_readsItem_173 : decode cX5_readsItem 173 = .ok (.bipush 99, 2) := by decide +kernel
theorem dX5_readsItem_175 : decode cX5_readsItem 175 = .ok (.invokevirtual 82, 3) := by decide +kernel
theorem dX5_readsItem_178 : decode cX5_readsItem 178 = .ok (.ifCond .ne 5, 3) := by decide +kernel
theorem dX5_readsItem_181 : decode cX5_readsItem 181 = .ok (.iconst 0, 1) := by decide +kernel
theorem dX5_readsItem_182 : decode cX5_readsItem 182 = .ok (.ireturn, 1) := by decide +kernel
theorem dX5_readsItem_183 : decode cX5_readsItem 183 = .ok (.aload_n 0, 1) := by decide +kernel
theorem dX5_readsItem_184 : decode cX5_readsItem 184 = .ok (.getfield 16, 3) := by decide +kernel
theorem dX5_readsItem_187 : decode cX5_readsItem 187 = .ok (.iconst 1, 1) := by decide +kernel
theorem dX5_readsItem_188 : decode cX5_readsItem 188 = .ok (.dup2, 1) := by decide +kernel
theorem dX5_readsItem_189 : decode cX5_readsItem 189 = .ok (.iaload, 1) := by decide +kernel
theorem dX5_readsItem_190 : decode cX5_readsItem 190 = .ok (.iconst 1, 1) := by decide +kernel
theorem dX5_readsItem_191 : decode cX5_readsItem 191 = .ok (.iadd, 1) := by decide +kernel
theorem dX5_readsItem_192 : decode cX5_readsItem 192 = .ok (.iastore, 1) := by decide +kernel
theorem dX5_readsItem_193 : decode cX5_readsItem 193 = .ok (.iconst 1, 1) := by decide +kernel
theorem dX5_readsItem_194 : decode cX5_readsItem 194 = .ok (.ireturn, 1) := by decide +kernel
theorem dX5_reads_0 : decode cX5_reads 0 = .ok (.iconst 0, 1) := by decide +kernel
theorem dX5_reads_1 : decode cX5_reads 1 = .ok (.istore_n 1, 1) := by decide +kernel
theorem dX5_reads_2 : decode cX5_reads 2 = .ok (.iload_n 1, 1) := by decide +kernel
theorem dX5_reads_3 : decode cX5_reads 3 = .ok (.bipush 43, 2) := by decide +kernel
theorem dX5_reads_5 : decode cX5_reads 5 = .ok (.if_icmp .ge 16, 3) := by decide +kernel
theorem dX5_reads_8 : decode cX5_reads 8 = .ok (.aload_n 0, 1) := by decide +kernel
theorem dX5_reads_9 : decode cX5_reads 9 = .ok (.getfield 16, 3) := by decide +kernel
theorem dX5_reads_12 : decode cX5_reads 12 = .ok (.iload_n 1, 1) := by decide +kernel
theorem dX5_reads_13 : decode cX5_reads 13 = .ok (.iconst 0, 1) := by decide +kernel
theorem dX5_reads_14 : decode cX5_reads 14 = .ok (.iastore, 1) := by decide +kernel
theorem dX5_reads_15 : decode cX5_reads 15 = .ok (.iinc 1 1, 3) := by decide +kernel
theorem dX5_reads_18 : decode cX5_reads 18 = .ok (.goto (-16), 3) := by decide +kernel
theorem dX5_reads_21 : decode cX5_reads 21 = .ok (.aload_n 0, 1) := by decide +kernel
theorem dX5_reads_22 : decode cX5_reads 22 = .ok (.iconst 0, 1) := by decide +kernel
theorem dX5_reads_23 : decode cX5_reads 23 = .ok (.putfield 56, 3) := by decide +kernel
theorem dX5_reads_26 : decode cX5_reads 26 = .ok (.aload_n 0, 1) := by decide +kernel
theorem dX5_reads_27 : decode cX5_reads 27 = .ok (.invokevirtual 79, 3) := by decide +kernel
theorem dX5_reads_30 : decode cX5_reads 30 = .ok (.aload_n 0, 1) := by decide +kernel
theorem dX5_reads_31 : decode cX5_reads 31 = .ok (.getfield 73, 3) := by decide +kernel
theorem dX5_reads_34 : decode cX5_reads 34 = .ok (.ifCond .eq 43, 3) := by decide +kernel
theorem dX5_reads_37 : decode cX5_reads 37 = .ok (.aload_n 0, 1) := by decide +kernel
theorem dX5_reads_38 : decode cX5_reads 38 = .ok (.invokevirtual 85, 3) := by decide +kernel
theorem dX5_reads_41 : decode cX5_reads 41 = .ok (.ifCond .ne 5, 3) := by decide +kernel
theorem dX5_reads_44 : decode cX5_reads 44 = .ok (.iconst 0, 1) := by decide +kernel
theorem dX5_reads_45 : decode cX5_reads 45 = .ok (.ireturn, 1) := by decide +kernel
theorem dX5_reads_46 : decode cX5_reads 46 = .ok (.aload_n 0, 1) := by decide +kernel
theorem dX5_reads_47 : decode cX5_reads 47 = .ok (.invokevirtual 79, 3) := by decide +kernel
theorem dX5_reads_50 : decode cX5_reads 50 = .ok (.aload_n 0, 1) := by decide +kernel
theorem dX5_reads_51 : decode cX5_reads 51 = .ok (.getfield 73, 3) := by decide +kernel
theorem dX5_reads_54 : decode cX5_reads 54 = .ok (.iconst 3, 1) := by decide +kernel
theorem dX5_reads_55 : decode cX5_reads 55 = .ok (.if_icmp .eq 5, 3) := by decide +kernel
theorem dX5_reads_58 : decode cX5_reads 58 = .ok (.iconst 0, 1) := by decide +kernel
theorem dX5_reads_59 : decode cX5_reads 59 = .ok (.ireturn, 1) := by decide +kernel
theorem dX5_reads_60 : decode cX5_reads 60 = .ok (.aload_n 0, 1) := by decide +kernel
theorem dX5_reads_61 : decode cX5_reads 61 = .ok (.getfield 16, 3) := by decide +kernel
theorem dX5_reads_64 : decode cX5_reads 64 = .ok (.iconst 2, 1) := by decide +kernel
theorem dX5_reads_65 : decode cX5_reads 65 = .ok (.dup2, 1) := by decide +kernel
theorem dX5_reads_66 : decode cX5_reads 66 = .ok (.iaload, 1) := by decide +kernel
theorem dX5_reads_67 : decode cX5_reads 67 = .ok (.iconst 1, 1) := by decide +kernel
theorem dX5_reads_68 : decode cX5_reads 68 = .ok (.iadd, 1) := by decide +kernel
theorem dX5_reads_69 : decode cX5_reads 69 = .ok (.iastore, 1) := by decide +kernel
theorem dX5_reads_70 : decode cX5_reads 70 = .ok (.aload_n 0, 1) := by decide +kernel
theorem dX5_reads_71 : decode cX5_reads 71 = .ok (.invokevirtual 79, 3) := by decide +kernel
theorem dX5_reads_74 : decode cX5_reads 74 = .ok (.goto (-44), 3) := by decide +kernel
theorem dX5_reads_77 : decode cX5_reads 77 = .ok (.iconst 1, 1) := by decide +kernel
theorem dX5_reads_78 : decode cX5_reads 78 = .ok (.ireturn, 1) := by decide +kernel
theorem dX5_begins_0 : decode cX5_begins 0 = .ok (.iconst 0, 1) := by decide +kernel
theorem dX5_begins_1 : decode cX5_begins 1 = .ok (.istore_n 1, 1) := by decide +kernel
theorem dX5_begins_2 : decode cX5_begins 2 = .ok (.iload_n 1, 1) := by decide +kernel
theorem dX5_begins_3 : decode cX5_begins 3 = .ok (.bipush 43, 2) := by decide +kernel
theorem dX5_begins_5 : decode cX5_begins 5 = .ok (.if_icmp .ge 21, 3) := by decide +kernel
theorem dX5_begins_8 : decode cX5_begins 8 = .ok (.aload_n 0, 1) := by decide +kernel
theorem dX5_begins_9 : decode cX5_begins 9 = .ok (.getfield 13, 3) := by decide +kernel
theorem dX5_begins_12 : decode cX5_begins 12 = .ok (.iload_n 1, 1) := by decide +kernel
theorem dX5_begins_13 : decode cX5_begins 13 = .ok (.aload_n 0, 1) := by decide +kernel
theorem dX5_begins_14 : decode cX5_begins 14 = .ok (.getfield 16, 3) := by decide +kernel
theorem dX5_begins_17 : decode cX5_begins 17 = .ok (.iload_n 1, 1) := by decide +kernel
theorem dX5_begins_18 : decode cX5_begins 18 = .ok (.iaload, 1) := by decide +kernel
theorem dX5_begins_19 : decode cX5_begins 19 = .ok (.iastore, 1) := by decide +kernel
theorem dX5_begins_20 : decode cX5_begins 20 = .ok (.iinc 1 1, 3) := by decide +kernel
theorem dX5_begins_23 : decode cX5_begins 23 = .ok (.goto (-21), 3) := by decide +kernel
theorem dX5_begins_26 : decode cX5_begins 26 = .ok (.iconst 0, 1) := by decide +kernel
theorem dX5_begins_27 : decode cX5_begins 27 = .ok (.istore_n 1, 1) := by decide +kernel
theorem dX5_begins_28 : decode cX5_begins 28 = .ok (.iload_n 1, 1) := by decide +kernel
theorem dX5_begins_29 : decode cX5_begins 29 = .ok (.bipush 14, 2) := by decide +kernel
theorem dX5_begins_31 : decode cX5_begins 31 = .ok (.if_icmp .gt 27, 3) := by decide +kernel
theorem dX5_begins_34 : decode cX5_begins 34 = .ok (.aload_n 0, 1) := by decide +kernel
theorem dX5_begins_35 : decode cX5_begins 35 = .ok (.getfield 19, 3) := by decide +kernel
theorem dX5_begins_38 : decode cX5_begins 38 = .ok (.iload_n 1, 1) := by decide +kernel
theorem dX5_begins_39 : decode cX5_begins 39 = .ok (.iload_n 1, 1) := by decide +kernel
theorem dX5_begins_40 : decode cX5_begins 40 = .ok (.bipush 6, 2) := by decide +kernel
theorem dX5_begins_42 : decode cX5_begins 42 = .ok (.if_icmp .ge 8, 3) := by decide +kernel
theorem dX5_begins_45 : decode cX5_begins 45 = .ok (.bipush (-9), 2) := by decide +kernel
theorem dX5_begins_47 : decode cX5_begins 47 = .ok (.goto 4, 3) := by decide +kernel
theorem dX5_begins_50 : decode cX5_begins 50 = .ok (.iconst 0, 1) := by decide +kernel
theorem dX5_begins_51 : decode cX5_begins 51 = .ok (.iastore, 1) := by decide +kernel
theorem dX5_begins_52 : decode cX5_begins 52 = .ok (.iinc 1 1, 3) := by decide +kernel
theorem dX5_begins_55 : decode cX5_begins 55 = .ok (.goto (-27), 3) := by decide +kernel
theorem dX5_begins_58 : decode cX5_begins 58 = .ok (.aload_n 0, 1) := by decide +kernel
theorem dX5_begins_59 : decode cX5_begins 59 = .ok (.iconst 0, 1) := by decide +kernel
theorem dX5_begins_60 : decode cX5_begins 60 = .ok (.putfield 88, 3) := by decide +kernel
theorem dX5_begins_63 : decode cX5_begins 63 = .ok (.aload_n 0, 1) := by decide +kernel
theorem dX5_begins_64 : decode cX5_begins 64 = .ok (.getfield 25, 3) := by decide +kernel
theorem dX5_begins_67 : decode cX5_begins 67 = .ok (.iconst 0, 1) := by decide +kernel
theorem dX5_begins_68 : decode cX5_begins 68 = .ok (.iconst 0, 1) := by decide +kernel
theorem dX5_begins_69 : decode cX5_begins 69 = .ok (.bastore, 1) := by decide +kernel
theorem dX5_begins_70 : decode cX5_begins 70 = .ok (.aload_n 0, 1) := by decide +kernel
theorem dX5_begins_71 : decode cX5_begins 71 = .ok (.getfield 25, 3) := by decide +kernel
theorem dX5_begins_74 : decode cX5_begins 74 = .ok (.iconst 1, 1) := by decide +kernel
theorem dX5_begins_75 : decode cX5_begins 75 = .ok (.iconst 0, 1) := by decide +kernel
theorem dX5_begins_76 : decode cX5_begins 76 = .ok (.bastore, 1) := by decide +kernel
theorem dX5_begins_77 : decode cX5_begins 77 = .ok (.return_, 1) := by decide +kernel
theorem dX5_quarter_0 : decode cX5_quarter 0 = .ok (.aload_n 0, 1) := by decide +kernel
theorem dX5_quarter_1 : decode cX5_quarter 1 = .ok (.invokevirtual 42, 3) := by decide +kernel
theorem dX5_quarter_4 : decode cX5_quarter 4 = .ok (.ifCond .ne 11, 3) := by decide +kernel
theorem dX5_quarter_7 : decode cX5_quarter 7 = .ok (.bipush (-10), 2) := by decide +kernel
theorem dX5_quarter_9 : decode cX5_quarter 9 = .ok (.aload_n 0, 1) := by decide +kernel
theorem dX5_quarter_10 : decode cX5_quarter 10 = .ok (.getfield 63, 3) := by decide +kernel
theorem dX5_quarter_13 : decode cX5_quarter 13 = .ok (.isub, 1) := by decide +kernel
theorem dX5_quarter_14 : decode cX5_quarter 14 = .ok (.ireturn, 1) := by decide +kernel
theorem dX5_quarter_15 : decode cX5_quarter 15 = .ok (.aload_n 0, 1) := by decide +kernel
theorem dX5_quarter_16 : decode cX5_quarter 16 = .ok (.invokevirtual 46, 3) := by decide +kernel
theorem dX5_quarter_19 : decode cX5_quarter 19 = .ok (.aload_n 0, 1) := by decide +kernel
theorem dX5_quarter_20 : decode cX5_quarter 20 = .ok (.iconst 0, 1) := by decide +kernel
theorem dX5_quarter_21 : decode cX5_quarter 21 = .ok (.putfield 53, 3) := by decide +kernel
theorem dX5_quarter_24 : decode cX5_quarter 24 = .ok (.aload_n 0, 1) := by decide +kernel
theorem dX5_quarter_25 : decode cX5_quarter 25 = .ok (.getfield 13, 3) := by decide +kernel
theorem dX5_quarter_28 : decode cX5_quarter 28 = .ok (.iconst 2, 1) := by decide +kernel
theorem dX5_quarter_29 : decode cX5_quarter 29 = .ok (.iaload, 1) := by decide +kernel
theorem dX5_quarter_30 : decode cX5_quarter 30 = .ok (.ireturn, 1) := by decide +kernel
theorem dX5_ones_0 : decode cX5_ones 0 = .ok (.iconst 0, 1) := by decide +kernel
theorem dX5_ones_1 : decode cX5_ones 1 = .ok (.istore_n 1, 1) := by decide +kernel
theorem dX5_ones_2 : decode cX5_ones 2 = .ok (.iconst 0, 1) := by decide +kernel
theorem dX5_ones_3 : decode cX5_ones 3 = .ok (.istore_n 2, 1) := by decide +kernel
theorem dX5_ones_4 : decode cX5_ones 4 = .ok (.iload_n 2, 1) := by decide +kernel
theorem dX5_ones_5 : decode cX5_ones 5 = .ok (.bipush 6, 2) := by decide +kernel
theorem dX5_ones_7 : decode cX5_ones 7 = .ok (.if_icmp .ge 17, 3) := by decide +kernel
theorem dX5_ones_10 : decode cX5_ones 10 = .ok (.iload_n 1, 1) := by decide +kernel
theorem dX5_ones_11 : decode cX5_ones 11 = .ok (.iload_n 0, 1) := by decide +kernel
theorem dX5_ones_12 : decode cX5_ones 12 = .ok (.iload_n 2, 1) := by decide +kernel
theorem dX5_ones_13 : decode cX5_ones 13 = .ok (.ishr, 1) := by decide +kernel
theorem dX5_ones_14 : decode cX5_ones 14 = .ok (.iconst 1, 1) := by decide +kernel
theorem dX5_ones_15 : decode cX5_ones 15 = .ok (.iand, 1) := by decide +kernel
theorem dX5_ones_16 : decode cX5_ones 16 = .ok (.iadd, 1) := by decide +kernel
theorem dX5_ones_17 : decode cX5_ones 17 = .ok (.istore_n 1, 1) := by decide +kernel
theorem dX5_ones_18 : decode cX5_ones 18 = .ok (.iinc 2 1, 3) := by decide +kernel
theorem dX5_ones_21 : decode cX5_ones 21 = .ok (.goto (-17), 3) := by decide +kernel
theorem dX5_ones_24 : decode cX5_ones 24 = .ok (.iload_n 1, 1) := by decide +kernel
theorem dX5_ones_25 : decode cX5_ones 25 = .ok (.ireturn, 1) := by decide +kernel
theorem dX5_whereAll_0 : decode cX5_whereAll 0 = .ok (.iconst 0, 1) := by decide +kernel
theorem dX5_whereAll_1 : decode cX5_whereAll 1 = .ok (.istore_n 2, 1) := by decide +kernel
theorem dX5_whereAll_2 : decode cX5_whereAll 2 = .ok (.iconst 0, 1) := by decide +kernel
theorem dX5_whereAll_3 : decode cX5_whereAll 3 = .ok (.istore_n 3, 1) := by decide +kernel
theorem dX5_whereAll_4 : decode cX5_whereAll 4 = .ok (.iload_n 3, 1) := by decide +kernel
theorem dX5_whereAll_5 : decode cX5_whereAll 5 = .ok (.aload_n 0, 1) := by decide +kernel
theorem dX5_whereAll_6 : decode cX5_whereAll 6 = .ok (.getfield 13, 3) := by decide +kernel
theorem dX5_whereAll_9 : decode cX5_whereAll 9 = .ok (.iconst 1, 1) := by decide +kernel
theorem dX5_whereAll_10 : decode cX5_whereAll 10 = .ok (.iaload, 1) := by decide +kernel
theorem dX5_whereAll_11 : decode cX5_whereAll 11 = .ok (.if_icmp .ge 29, 3) := by decide +kernel
theorem dX5_whereAll_14 : decode cX5_whereAll 14 = .ok (.iload_n 2, 1) := by decide +kernel
theorem dX5_whereAll_15 : decode cX5_whereAll 15 = .ok (.aload_n 0, 1) := by decide +kernel
theorem dX5_whereAll_16 : decode cX5_whereAll 16 = .ok (.getfield 19, 3) := by decide +kernel
theorem dX5_whereAll_19 : decode cX5_whereAll 19 = .ok (.iload_n 3, 1) := by decide +kernel
theorem dX5_whereAll_20 : decode cX5_whereAll 20 = .ok (.iaload, 1) := by decide +kernel
theorem dX5_whereAll_21 : decode cX5_whereAll 21 = .ok (.iload_n 1, 1) := by decide +kernel
theorem dX5_whereAll_22 : decode cX5_whereAll 22 = .ok (.if_icmp .ne 9, 3) := by decide +kernel
theorem dX5_whereAll_25 : decode cX5_whereAll 25 = .ok (.iconst 1, 1) := by decide +kernel
theorem dX5_whereAll_26 : decode cX5_whereAll 26 = .ok (.iload_n 3, 1) := by decide +kernel
theorem dX5_whereAll_27 : decode cX5_whereAll 27 = .ok (.ishl, 1) := by decide +kernel
theorem dX5_whereAll_28 : decode cX5_whereAll 28 = .ok (.goto 4, 3) := by decide +kernel
theorem dX5_whereAll_31 : decode cX5_whereAll 31 = .ok (.iconst 0, 1) := by decide +kernel
theorem dX5_whereAll_32 : decode cX5_whereAll 32 = .ok (.ior, 1) := by decide +kernel
theorem dX5_whereAll_33 : decode cX5_whereAll 33 = .ok (.istore_n 2, 1) := by decide +kernel
theorem dX5_whereAll_34 : decode cX5_whereAll 34 = .ok (.iinc 3 1, 3) := by decide +kernel
theorem dX5_whereAll_37 : decode cX5_whereAll 37 = .ok (.goto (-33), 3) := by decide +kernel
theorem dX5_whereAll_40 : decode cX5_whereAll 40 = .ok (.iload_n 2, 1) := by decide +kernel
theorem dX5_whereAll_41 : decode cX5_whereAll 41 = .ok (.ireturn, 1) := by decide +kernel
theorem dX5_hot_0 : decode cX5_hot 0 = .ok (.aload_n 0, 1) := by decide +kernel
theorem dX5_hot_1 : decode cX5_hot 1 = .ok (.getfield 13, 3) := by decide +kernel
theorem dX5_hot_4 : decode cX5_hot 4 = .ok (.iconst 3, 1) := by decide +kernel
theorem dX5_hot_5 : decode cX5_hot 5 = .ok (.iload_n 1, 1) := by decide +kernel
theorem dX5_hot_6 : decode cX5_hot 6 = .ok (.iadd, 1) := by decide +kernel
theorem dX5_hot_7 : decode cX5_hot 7 = .ok (.iaload, 1) := by decide +kernel
theorem dX5_hot_8 : decode cX5_hot 8 = .ok (.bipush 10, 2) := by decide +kernel
theorem dX5_hot_10 : decode cX5_hot 10 = .ok (.aload_n 0, 1) := by decide +kernel
theorem dX5_hot_11 : decode cX5_hot 11 = .ok (.iload_n 1, 1) := by decide +kernel
theorem dX5_hot_12 : decode cX5_hot 12 = .ok (.invokevirtual 91, 3) := by decide +kernel
theorem dX5_hot_15 : decode cX5_hot 15 = .ok (.invokestatic 94, 3) := by decide +kernel
theorem dX5_hot_18 : decode cX5_hot 18 = .ok (.isub, 1) := by decide +kernel
theorem dX5_hot_19 : decode cX5_hot 19 = .ok (.imul, 1) := by decide +kernel
theorem dX5_hot_20 : decode cX5_hot 20 = .ok (.bipush 10, 2) := by decide +kernel
theorem dX5_hot_22 : decode cX5_hot 22 = .ok (.idiv, 1) := by decide +kernel
theorem dX5_hot_23 : decode cX5_hot 23 = .ok (.ireturn, 1) := by decide +kernel
theorem dX5_oven_0 : decode cX5_oven 0 = .ok (.aload_n 0, 1) := by decide +kernel
theorem dX5_oven_1 : decode cX5_oven 1 = .ok (.iload_n 1, 1) := by decide +kernel
theorem dX5_oven_2 : decode cX5_oven 2 = .ok (.invokevirtual 97, 3) := by decide +kernel
theorem dX5_oven_5 : decode cX5_oven 5 = .ok (.ifCond .ne 6, 3) := by decide +kernel
theorem dX5_oven_8 : decode cX5_oven 8 = .ok (.ldc 100, 2) := by decide +kernel
theorem dX5_oven_10 : decode cX5_oven 10 = .ok (.ireturn, 1) := by decide +kernel
theorem dX5_oven_11 : decode cX5_oven 11 = .ok (.iload_n 2, 1) := by decide +kernel
theorem dX5_oven_12 : decode cX5_oven 12 = .ok (.tableswitch 84 0 4 #[36, 45, 58, 64, 70], 36) := by decide +kernel
theorem dX5_oven_48 : decode cX5_oven 48 = .ok (.aload_n 0, 1) := by decide +kernel
theorem dX5_oven_49 : decode cX5_oven 49 = .ok (.getfield 13, 3) := by decide +kernel
theorem dX5_oven_52 : decode cX5_oven 52 = .ok (.iconst 3, 1) := by decide +kernel
theorem dX5_oven_53 : decode cX5_oven 53 = .ok (.iload_n 1, 1) := by decide +kernel
theorem dX5_oven_54 : decode cX5_oven 54 = .ok (.iadd, 1) := by decide +kernel
theorem dX5_oven_55 : decode cX5_oven 55 = .ok (.iaload, 1) := by decide +kernel
theorem dX5_oven_56 : decode cX5_oven 56 = .ok (.ireturn, 1) := by decide +kernel
theorem dX5_oven_57 : decode cX5_oven 57 = .ok (.aload_n 0, 1) := by decide +kernel
theorem dX5_oven_58 : decode cX5_oven 58 = .ok (.getfield 13, 3) := by decide +kernel
theorem dX5_oven_61 : decode cX5_oven 61 = .ok (.bipush 8, 2) := by decide +kernel
theorem dX5_oven_63 : decode cX5_oven 63 = .ok (.iload_n 1, 1) := by decide +kernel
theorem dX5_oven_64 : decode cX5_oven 64 = .ok (.iadd, 1) := by decide +kernel
theorem dX5_oven_65 : decode cX5_oven 65 = .ok (.iaload, 1) := by decide +kernel
theorem dX5_oven_66 : decode cX5_oven 66 = .ok (.bipush 9, 2) := by decide +kernel
theorem dX5_oven_68 : decode cX5_oven 68 = .ok (.isub, 1) := by decide +kernel
theorem dX5_oven_69 : decode cX5_oven 69 = .ok (.ireturn, 1) := by decide +kernel
theorem dX5_oven_70 : decode cX5_oven 70 = .ok (.aload_n 0, 1) := by decide +kernel
theorem dX5_oven_71 : decode cX5_oven 71 = .ok (.iload_n 1, 1) := by decide +kernel
theorem dX5_oven_72 : decode cX5_oven 72 = .ok (.invokevirtual 91, 3) := by decide +kernel
theorem dX5_oven_75 : decode cX5_oven 75 = .ok (.ireturn, 1) := by decide +kernel
theorem dX5_oven_76 : decode cX5_oven 76 = .ok (.aload_n 0, 1) := by decide +kernel
theorem dX5_oven_77 : decode cX5_oven 77 = .ok (.iload_n 1, 1) := by decide +kernel
theorem dX5_oven_78 : decode cX5_oven 78 = .ok (.invokevirtual 101, 3) := by decide +kernel
theorem dX5_oven_81 : decode cX5_oven 81 = .ok (.ireturn, 1) := by decide +kernel
theorem dX5_oven_82 : decode cX5_oven 82 = .ok (.aload_n 0, 1) := by decide +kernel
theorem dX5_oven_83 : decode cX5_oven 83 = .ok (.iload_n 1, 1) := by decide +kernel
theorem dX5_oven_84 : decode cX5_oven 84 = .ok (.invokevirtual 104, 3) := by decide +kernel
theorem dX5_oven_87 : decode cX5_oven 87 = .ok (.ifCond .eq 7, 3) := by decide +kernel
theorem dX5_oven_90 : decode cX5_oven 90 = .ok (.iconst 1, 1) := by decide +kernel
theorem dX5_oven_91 : decode cX5_oven 91 = .ok (.goto 4, 3) := by decide +kernel
theorem dX5_oven_94 : decode cX5_oven 94 = .ok (.iconst 0, 1) := by decide +kernel
theorem dX5_oven_95 : decode cX5_oven 95 = .ok (.ireturn, 1) := by decide +kernel
theorem dX5_oven_96 : decode cX5_oven 96 = .ok (.ldc 100, 2) := by decide +kernel
theorem dX5_oven_98 : decode cX5_oven 98 = .ok (.ireturn, 1) := by decide +kernel
theorem dX5_smellOf_0 : decode cX5_smellOf 0 = .ok (.aload_n 0, 1) := by decide +kernel
theorem dX5_smellOf_1 : decode cX5_smellOf 1 = .ok (.getfield 13, 3) := by decide +kernel
theorem dX5_smellOf_4 : decode cX5_smellOf 4 = .ok (.bipush 8, 2) := by decide +kernel
theorem dX5_smellOf_6 : decode cX5_smellOf 6 = .ok (.iload_n 1, 1) := by decide +kernel
theorem dX5_smellOf_7 : decode cX5_smellOf 7 = .ok (.iadd, 1) := by decide +kernel
theorem dX5_smellOf_8 : decode cX5_smellOf 8 = .ok (.iaload, 1) := by decide +kernel
theorem dX5_smellOf_9 : decode cX5_smellOf 9 = .ok (.bipush 9, 2) := by decide +kernel
theorem dX5_smellOf_11 : decode cX5_smellOf 11 = .ok (.isub, 1) := by decide +kernel
theorem dX5_smellOf_12 : decode cX5_smellOf 12 = .ok (.istore_n 3, 1) := by decide +kernel
theorem dX5_smellOf_13 : decode cX5_smellOf 13 = .ok (.iconst 0, 1) := by decide +kernel
theorem dX5_smellOf_14 : decode cX5_smellOf 14 = .ok (.istore 4, 2) := by decide +kernel
theorem dX5_smellOf_16 : decode cX5_smellOf 16 = .ok (.iload 4, 2) := by decide +kernel
theorem dX5_smellOf_18 : decode cX5_smellOf 18 = .ok (.aload_n 0, 1) := by decide +kernel
theorem dX5_smellOf_19 : decode cX5_smellOf 19 = .ok (.getfield 13, 3) := by decide +kernel
theorem dX5_smellOf_22 : decode cX5_smellOf 22 = .ok (.iconst 1, 1) := by decide +kernel
theorem dX5_smellOf_23 : decode cX5_smellOf 23 = .ok (.iaload, 1) := by decide +kernel
theorem dX5_smellOf_24 : decode cX5_smellOf 24 = .ok (.if_icmp .ge 72, 3) := by decide +kernel
theorem dX5_smellOf_27 : decode cX5_smellOf 27 = .ok (.aload_n 0, 1) := by decide +kernel
theorem dX5_smellOf_28 : decode cX5_smellOf 28 = .ok (.getfield 13, 3) := by decide +kernel
theorem dX5_smellOf_31 : decode cX5_smellOf 31 = .ok (.bipush 13, 2) := by decide +kernel
theorem dX5_smellOf_33 : decode cX5_smellOf 33 = .ok (.iload_n 2, 1) := by decide +kernel
theorem dX5_smellOf_34 : decode cX5_smellOf 34 = .ok (.iadd, 1) := by decide +kernel
theorem dX5_smellOf_35 : decode cX5_smellOf 35 = .ok (.iaload, 1) := by decide +kernel
theorem dX5_smellOf_36 : decode cX5_smellOf 36 = .ok (.aload_n 0, 1) := by decide +kernel
theorem dX5_smellOf_37 : decode cX5_smellOf 37 = .ok (.getfield 13, 3) := by decide +kernel
theorem dX5_smellOf_40 : decode cX5_smellOf 40 = .ok (.bipush 19, 2) := by decide +kernel
theorem dX5_smellOf_42 : decode cX5_smellOf 42 = .ok (.iload_n 2, 1) := by decide +kernel
theorem dX5_smellOf_43 : decode cX5_smellOf 43 = .ok (.iadd, 1) := by decide +kernel
theorem dX5_smellOf_44 : decode cX5_smellOf 44 = .ok (.iaload, 1) := by decide +kernel
theorem dX5_smellOf_45 : decode cX5_smellOf 45 = .ok (.isub, 1) := by decide +kernel
theorem dX5_smellOf_46 : decode cX5_smellOf 46 = .ok (.aload_n 0, 1) := by decide +kernel
theorem dX5_smellOf_47 : decode cX5_smellOf 47 = .ok (.getfield 13, 3) := by decide +kernel
theorem dX5_smellOf_50 : decode cX5_smellOf 50 = .ok (.bipush 13, 2) := by decide +kernel
theorem dX5_smellOf_52 : decode cX5_smellOf 52 = .ok (.iload 4, 2) := by decide +kernel
theorem dX5_smellOf_54 : decode cX5_smellOf 54 = .ok (.iadd, 1) := by decide +kernel
theorem dX5_smellOf_55 : decode cX5_smellOf 55 = .ok (.iaload, 1) := by decide +kernel
theorem dX5_smellOf_56 : decode cX5_smellOf 56 = .ok (.aload_n 0, 1) := by decide +kernel
theorem dX5_smellOf_57 : decode cX5_smellOf 57 = .ok (.getfield 13, 3) := by decide +kernel
theorem dX5_smellOf_60 : decode cX5_smellOf 60 = .ok (.bipush 19, 2) := by decide +kernel
theorem dX5_smellOf_62 : decode cX5_smellOf 62 = .ok (.iload 4, 2) := by decide +kernel
theorem dX5_smellOf_64 : decode cX5_smellOf 64 = .ok (.iadd, 1) := by decide +kernel
theorem dX5_smellOf_65 : decode cX5_smellOf 65 = .ok (.iaload, 1) := by decide +kernel
theorem dX5_smellOf_66 : decode cX5_smellOf 66 = .ok (.isub, 1) := by decide +kernel
theorem dX5_smellOf_67 : decode cX5_smellOf 67 = .ok (.imul, 1) := by decide +kernel
theorem dX5_smellOf_68 : decode cX5_smellOf 68 = .ok (.istore 5, 2) := by decide +kernel
theorem dX5_smellOf_70 : decode cX5_smellOf 70 = .ok (.iload_n 3, 1) := by decide +kernel
theorem dX5_smellOf_71 : decode cX5_smellOf 71 = .ok (.aload_n 0, 1) := by decide +kernel
theorem dX5_smellOf_72 : decode cX5_smellOf 72 = .ok (.getfield 19, 3) := by decide +kernel
theorem dX5_smellOf_75 : decode cX5_smellOf 75 = .ok (.iload 4, 2) := by decide +kernel
theorem dX5_smellOf_77 : decode cX5_smellOf 77 = .ok (.iaload, 1) := by decide +kernel
theorem dX5_smellOf_78 : decode cX5_smellOf 78 = .ok (.iload_n 1, 1) := by decide +kernel
theorem dX5_smellOf_79 : decode cX5_smellOf 79 = .ok (.if_icmp .ne 8, 3) := by decide +kernel
theorem dX5_smellOf_82 : decode cX5_smellOf 82 = .ok (.iload 5, 2) := by decide +kernel
theorem dX5_smellOf_84 : decode cX5_smellOf 84 = .ok (.goto 4, 3) := by decide +kernel
theorem dX5_smellOf_87 : decode cX5_smellOf 87 = .ok (.iconst 0, 1) := by decide +kernel
theorem dX5_smellOf_88 : decode cX5_smellOf 88 = .ok (.iadd, 1) := by decide +kernel
theorem dX5_smellOf_89 : decode cX5_smellOf 89 = .ok (.istore_n 3, 1) := by decide +kernel
theorem dX5_smellOf_90 : decode cX5_smellOf 90 = .ok (.iinc 4 1, 3) := by decide +kernel
theorem dX5_smellOf_93 : decode cX5_smellOf 93 = .ok (.goto (-77), 3) := by decide +kernel
theorem dX5_smellOf_96 : decode cX5_smellOf 96 = .ok (.iload_n 3, 1) := by decide +kernel
theorem dX5_smellOf_97 : decode cX5_smellOf 97 = .ok (.ireturn, 1) := by decide +kernel
theorem dX5_noseOf_0 : decode cX5_noseOf 0 = .ok (.bipush (-9), 2) := by decide +kernel
theorem dX5_noseOf_2 : decode cX5_noseOf 2 = .ok (.istore_n 3, 1) := by decide +kernel
theorem dX5_noseOf_3 : decode cX5_noseOf 3 = .ok (.ldc 100, 2) := by decide +kernel
theorem dX5_noseOf_5 : decode cX5_noseOf 5 = .ok (.istore 4, 2) := by decide +kernel
theorem dX5_noseOf_7 : decode cX5_noseOf 7 = .ok (.iconst 0, 1) := by decide +kernel
theorem dX5_noseOf_8 : decode cX5_noseOf 8 = .ok (.istore 5, 2) := by decide +kernel
theorem dX5_noseOf_10 : decode cX5_noseOf 10 = .ok (.iload 5, 2) := by decide +kernel
theorem dX5_noseOf_12 : decode cX5_noseOf 12 = .ok (.aload_n 0, 1) := by decide +kernel
theorem dX5_noseOf_13 : decode cX5_noseOf 13 = .ok (.getfield 13, 3) := by decide +kernel
theorem dX5_noseOf_16 : decode cX5_noseOf 16 = .ok (.iconst 0, 1) := by decide +kernel
theorem dX5_noseOf_17 : decode cX5_noseOf 17 = .ok (.iaload, 1) := by decide +kernel
theorem dX5_noseOf_18 : decode cX5_noseOf 18 = .ok (.if_icmp .ge 77, 3) := by decide +kernel
theorem dX5_noseOf_21 : decode cX5_noseOf 21 = .ok (.aload_n 0, 1) := by decide +kernel
theorem dX5_noseOf_22 : decode cX5_noseOf 22 = .ok (.iload 5, 2) := by decide +kernel
theorem dX5_noseOf_24 : decode cX5_noseOf 24 = .ok (.iload_n 1, 1) := by decide +kernel
theorem dX5_noseOf_25 : decode cX5_noseOf 25 = .ok (.invokevirtual 107, 3) := by decide +kernel
theorem dX5_noseOf_28 : decode cX5_noseOf 28 = .ok (.iload 5, 2) := by decide +kernel
theorem dX5_noseOf_30 : decode cX5_noseOf 30 = .ok (.aload_n 0, 1) := by decide +kernel
theorem dX5_noseOf_31 : decode cX5_noseOf 31 = .ok (.getfield 32, 3) := by decide +kernel
theorem dX5_noseOf_34 : decode cX5_noseOf 34 = .ok (.if_icmp .ne 28, 3) := by decide +kernel
theorem dX5_noseOf_37 : decode cX5_noseOf 37 = .ok (.bipush 9, 2) := by decide +kernel
theorem dX5_noseOf_39 : decode cX5_noseOf 39 = .ok (.aload_n 0, 1) := by decide +kernel
theorem dX5_noseOf_40 : decode cX5_noseOf 40 = .ok (.getfield 13, 3) := by decide +kernel
theorem dX5_noseOf_43 : decode cX5_noseOf 43 = .ok (.bipush 13, 2) := by decide +kernel
theorem dX5_noseOf_45 : decode cX5_noseOf 45 = .ok (.iload_n 1, 1) := by decide +kernel
theorem dX5_noseOf_46 : decode cX5_noseOf 46 = .ok (.iadd, 1) := by decide +kernel
theorem dX5_noseOf_47 : decode cX5_noseOf 47 = .ok (.iaload, 1) := by decide +kernel
theorem dX5_noseOf_48 : decode cX5_noseOf 48 = .ok (.aload_n 0, 1) := by decide +kernel
theorem dX5_noseOf_49 : decode cX5_noseOf 49 = .ok (.getfield 13, 3) := by decide +kernel
theorem dX5_noseOf_52 : decode cX5_noseOf 52 = .ok (.bipush 19, 2) := by decide +kernel
theorem dX5_noseOf_54 : decode cX5_noseOf 54 = .ok (.iload_n 1, 1) := by decide +kernel
theorem dX5_noseOf_55 : decode cX5_noseOf 55 = .ok (.iadd, 1) := by decide +kernel
theorem dX5_noseOf_56 : decode cX5_noseOf 56 = .ok (.iaload, 1) := by decide +kernel
theorem dX5_noseOf_57 : decode cX5_noseOf 57 = .ok (.isub, 1) := by decide +kernel
theorem dX5_noseOf_58 : decode cX5_noseOf 58 = .ok (.imul, 1) := by decide +kernel
theorem dX5_noseOf_59 : decode cX5_noseOf 59 = .ok (.goto 4, 3) := by decide +kernel
theorem dX5_noseOf_62 : decode cX5_noseOf 62 = .ok (.iconst 0, 1) := by decide +kernel
theorem dX5_noseOf_63 : decode cX5_noseOf 63 = .ok (.iadd, 1) := by decide +kernel
theorem dX5_noseOf_64 : decode cX5_noseOf 64 = .ok (.istore 6, 2) := by decide +kernel
theorem dX5_noseOf_66 : decode cX5_noseOf 66 = .ok (.iload_n 2, 1) := by decide +kernel
theorem dX5_noseOf_67 : decode cX5_noseOf 67 = .ok (.iload 5, 2) := by decide +kernel
theorem dX5_noseOf_69 : decode cX5_noseOf 69 = .ok (.ishr, 1) := by decide +kernel
theorem dX5_noseOf_70 : decode cX5_noseOf 70 = .ok (.iconst 1, 1) := by decide +kernel
theorem dX5_noseOf_71 : decode cX5_noseOf 71 = .ok (.iand, 1) := by decide +kernel
theorem dX5_noseOf_72 : decode cX5_noseOf 72 = .ok (.ifCond .ne 17, 3) := by decide +kernel
theorem dX5_noseOf_75 : decode cX5_noseOf 75 = .ok (.iload 6, 2) := by decide +kernel
theorem dX5_noseOf_77 : decode cX5_noseOf 77 = .ok (.iload 4, 2) := by decide +kernel
theorem dX5_noseOf_79 : decode cX5_noseOf 79 = .ok (.if_icmp .le 10, 3) := by decide +kernel
theorem dX5_noseOf_82 : decode cX5_noseOf 82 = .ok (.iload 5, 2) := by decide +kernel
theorem dX5_noseOf_84 : decode cX5_noseOf 84 = .ok (.istore_n 3, 1) := by decide +kernel
theorem dX5_noseOf_85 : decode cX5_noseOf 85 = .ok (.iload 6, 2) := by decide +kernel
theorem dX5_noseOf_87 : decode cX5_noseOf 87 = .ok (.istore 4, 2) := by decide +kernel
theorem dX5_noseOf_89 : decode cX5_noseOf 89 = .ok (.iinc 5 1, 3) := by decide +kernel
theorem dX5_noseOf_92 : decode cX5_noseOf 92 = .ok (.goto (-82), 3) := by decide +kernel
theorem dX5_noseOf_95 : decode cX5_noseOf 95 = .ok (.iload_n 3, 1) := by decide +kernel
theorem dX5_noseOf_96 : decode cX5_noseOf 96 = .ok (.ireturn, 1) := by decide +kernel
theorem dX5_isOut_0 : decode cX5_isOut 0 = .ok (.aload_n 0, 1) := by decide +kernel
theorem dX5_isOut_1 : decode cX5_isOut 1 = .ok (.getfield 19, 3) := by decide +kernel
theorem dX5_isOut_4 : decode cX5_isOut 4 = .ok (.iload_n 1, 1) := by decide +kernel
theorem dX5_isOut_5 : decode cX5_isOut 5 = .ok (.iaload, 1) := by decide +kernel
theorem dX5_isOut_6 : decode cX5_isOut 6 = .ok (.bipush (-9), 2) := by decide +kernel
theorem dX5_isOut_8 : decode cX5_isOut 8 = .ok (.if_icmp .ne 7, 3) := by decide +kernel
theorem dX5_isOut_11 : decode cX5_isOut 11 = .ok (.iconst 1, 1) := by decide +kernel
theorem dX5_isOut_12 : decode cX5_isOut 12 = .ok (.goto 4, 3) := by decide +kernel
theorem dX5_isOut_15 : decode cX5_isOut 15 = .ok (.iconst 0, 1) := by decide +kernel
theorem dX5_isOut_16 : decode cX5_isOut 16 = .ok (.ireturn, 1) := by decide +kernel
theorem dX5_dough_0 : decode cX5_dough 0 = .ok (.aload_n 0, 1) := by decide +kernel
theorem dX5_dough_1 : decode cX5_dough 1 = .ok (.iload_n 1, 1) := by decide +kernel
theorem dX5_dough_2 : decode cX5_dough 2 = .ok (.invokevirtual 111, 3) := by decide +kernel
theorem dX5_dough_5 : decode cX5_dough 5 = .ok (.ifCond .ne 5, 3) := by decide +kernel
theorem dX5_dough_8 : decode cX5_dough 8 = .ok (.iconst (-1), 1) := by decide +kernel
theorem dX5_dough_9 : decode cX5_dough 9 = .ok (.ireturn, 1) := by decide +kernel
theorem dX5_dough_10 : decode cX5_dough 10 = .ok (.iload_n 2, 1) := by decide +kernel
theorem dX5_dough_11 : decode cX5_dough 11 = .ok (.tableswitch 138 0 7 #[45, 55, 65, 75, 85, 95, 102, 112], 45) := by decide +kernel
theorem dX5_dough_56 : decode cX5_dough 56 = .ok (.aload_n 0, 1) := by decide +kernel
theorem dX5_dough_57 : decode cX5_dough 57 = .ok (.getfield 13, 3) := by decide +kernel
theorem dX5_dough_60 : decode cX5_dough 60 = .ok (.bipush 13, 2) := by decide +kernel
theorem dX5_dough_62 : decode cX5_dough 62 = .ok (.iload_n 1, 1) := by decide +kernel
theorem dX5_dough_63 : decode cX5_dough 63 = .ok (.iadd, 1) := by decide +kernel
theorem dX5_dough_64 : decode cX5_dough 64 = .ok (.iaload, 1) := by decide +kernel
theorem dX5_dough_65 : decode cX5_dough 65 = .ok (.ireturn, 1) := by decide +kernel
theorem dX5_dough_66 : decode cX5_dough 66 = .ok (.aload_n 0, 1) := by decide +kernel
theorem dX5_dough_67 : decode cX5_dough 67 = .ok (.getfield 13, 3) := by decide +kernel
theorem dX5_dough_70 : decode cX5_dough 70 = .ok (.bipush 19, 2) := by decide +kernel
theorem dX5_dough_72 : decode cX5_dough 72 = .ok (.iload_n 1, 1) := by decide +kernel
theorem dX5_dough_73 : decode cX5_dough 73 = .ok (.iadd, 1) := by decide +kernel
theorem dX5_dough_74 : decode cX5_dough 74 = .ok (.iaload, 1) := by decide +kernel
theorem dX5_dough_75 : decode cX5_dough 75 = .ok (.ireturn, 1) := by decide +kernel
theorem dX5_dough_76 : decode cX5_dough 76 = .ok (.aload_n 0, 1) := by decide +kernel
theorem dX5_dough_77 : decode cX5_dough 77 = .ok (.getfield 13, 3) := by decide +kernel
theorem dX5_dough_80 : decode cX5_dough 80 = .ok (.bipush 25, 2) := by decide +kernel
theorem dX5_dough_82 : decode cX5_dough 82 = .ok (.iload_n 1, 1) := by decide +kernel
theorem dX5_dough_83 : decode cX5_dough 83 = .ok (.iadd, 1) := by decide +kernel
theorem dX5_dough_84 : decode cX5_dough 84 = .ok (.iaload, 1) := by decide +kernel
theorem dX5_dough_85 : decode cX5_dough 85 = .ok (.ireturn, 1) := by decide +kernel
theorem dX5_dough_86 : decode cX5_dough 86 = .ok (.aload_n 0, 1) := by decide +kernel
theorem dX5_dough_87 : decode cX5_dough 87 = .ok (.getfield 13, 3) := by decide +kernel
theorem dX5_dough_90 : decode cX5_dough 90 = .ok (.bipush 31, 2) := by decide +kernel
theorem dX5_dough_92 : decode cX5_dough 92 = .ok (.iload_n 1, 1) := by decide +kernel
theorem dX5_dough_93 : decode cX5_dough 93 = .ok (.iadd, 1) := by decide +kernel
theorem dX5_dough_94 : decode cX5_dough 94 = .ok (.iaload, 1) := by decide +kernel
theorem dX5_dough_95 : decode cX5_dough 95 = .ok (.ireturn, 1) := by decide +kernel
theorem dX5_dough_96 : decode cX5_dough 96 = .ok (.aload_n 0, 1) := by decide +kernel
theorem dX5_dough_97 : decode cX5_dough 97 = .ok (.getfield 13, 3) := by decide +kernel
theorem dX5_dough_100 : decode cX5_dough 100 = .ok (.bipush 37, 2) := by decide +kernel
theorem dX5_dough_102 : decode cX5_dough 102 = .ok (.iload_n 1, 1) := by decide +kernel
theorem dX5_dough_103 : decode cX5_dough 103 = .ok (.iadd, 1) := by decide +kernel
theorem dX5_dough_104 : decode cX5_dough 104 = .ok (.iaload, 1) := by decide +kernel
theorem dX5_dough_105 : decode cX5_dough 105 = .ok (.ireturn, 1) := by decide +kernel
theorem dX5_dough_106 : decode cX5_dough 106 = .ok (.aload_n 0, 1) := by decide +kernel
theorem dX5_dough_107 : decode cX5_dough 107 = .ok (.getfield 19, 3) := by decide +kernel
theorem dX5_dough_110 : decode cX5_dough 110 = .ok (.iload_n 1, 1) := by decide +kernel
theorem dX5_dough_111 : decode cX5_dough 111 = .ok (.iaload, 1) := by decide +kernel
theorem dX5_dough_112 : decode cX5_dough 112 = .ok (.ireturn, 1) := by decide +kernel
theorem dX5_dough_113 : decode cX5_dough 113 = .ok (.aload_n 0, 1) := by decide +kernel
theorem dX5_dough_114 : decode cX5_dough 114 = .ok (.getfield 19, 3) := by decide +kernel
theorem dX5_dough_117 : decode cX5_dough 117 = .ok (.bipush 6, 2) := by decide +kernel
theorem dX5_dough_119 : decode cX5_dough 119 = .ok (.iload_n 1, 1) := by decide +kernel
theorem dX5_dough_120 : decode cX5_dough 120 = .ok (.iadd, 1) := by decide +kernel
theorem dX5_dough_121 : decode cX5_dough 121 = .ok (.iaload, 1) := by decide +kernel
theorem dX5_dough_122 : decode cX5_dough 122 = .ok (.ireturn, 1) := by decide +kernel
theorem dX5_dough_123 : decode cX5_dough 123 = .ok (.aload_n 0, 1) := by decide +kernel
theorem dX5_dough_124 : decode cX5_dough 124 = .ok (.iload_n 1, 1) := by decide +kernel
theorem dX5_dough_125 : decode cX5_dough 125 = .ok (.invokevirtual 114, 3) := by decide +kernel
theorem dX5_dough_128 : decode cX5_dough 128 = .ok (.ifCond .eq 18, 3) := by decide +kernel
theorem dX5_dough_131 : decode cX5_dough 131 = .ok (.aload_n 0, 1) := by decide +kernel
theorem dX5_dough_132 : decode cX5_dough 132 = .ok (.iload_n 1, 1) := by decide +kernel
theorem dX5_dough_133 : decode cX5_dough 133 = .ok (.aload_n 0, 1) := by decide +kernel
theorem dX5_dough_134 : decode cX5_dough 134 = .ok (.getfield 19, 3) := by decide +kernel
theorem dX5_dough_137 : decode cX5_dough 137 = .ok (.bipush 12, 2) := by decide +kernel
theorem dX5_dough_139 : decode cX5_dough 139 = .ok (.iaload, 1) := by decide +kernel
theorem dX5_dough_140 : decode cX5_dough 140 = .ok (.invokevirtual 117, 3) := by decide +kernel
theorem dX5_dough_143 : decode cX5_dough 143 = .ok (.goto 5, 3) := by decide +kernel
theorem dX5_dough_146 : decode cX5_dough 146 = .ok (.bipush (-9), 2) := by decide +kernel
theorem dX5_dough_148 : decode cX5_dough 148 = .ok (.ireturn, 1) := by decide +kernel
theorem dX5_dough_149 : decode cX5_dough 149 = .ok (.iconst (-1), 1) := by decide +kernel
theorem dX5_dough_150 : decode cX5_dough 150 = .ok (.ireturn, 1) := by decide +kernel
theorem dX5_smell_0 : decode cX5_smell 0 = .ok (.aload_n 0, 1) := by decide +kernel
theorem dX5_smell_1 : decode cX5_smell 1 = .ok (.iload_n 1, 1) := by decide +kernel
theorem dX5_smell_2 : decode cX5_smell 2 = .ok (.invokevirtual 97, 3) := by decide +kernel
theorem dX5_smell_5 : decode cX5_smell 5 = .ok (.ifCond .eq 20, 3) := by decide +kernel
theorem dX5_smell_8 : decode cX5_smell 8 = .ok (.aload_n 0, 1) := by decide +kernel
theorem dX5_smell_9 : decode cX5_smell 9 = .ok (.iload_n 2, 1) := by decide +kernel
theorem dX5_smell_10 : decode cX5_smell 10 = .ok (.invokevirtual 111, 3) := by decide +kernel
theorem dX5_smell_13 : decode cX5_smell 13 = .ok (.ifCond .eq 12, 3) := by decide +kernel
theorem dX5_smell_16 : decode cX5_smell 16 = .ok (.aload_n 0, 1) := by decide +kernel
theorem dX5_smell_17 : decode cX5_smell 17 = .ok (.iload_n 1, 1) := by decide +kernel
theorem dX5_smell_18 : decode cX5_smell 18 = .ok (.iload_n 2, 1) := by decide +kernel
theorem dX5_smell_19 : decode cX5_smell 19 = .ok (.invokevirtual 107, 3) := by decide +kernel
theorem dX5_smell_22 : decode cX5_smell 22 = .ok (.goto 5, 3) := by decide +kernel
theorem dX5_smell_25 : decode cX5_smell 25 = .ok (.ldc 100, 2) := by decide +kernel
theorem dX5_smell_27 : decode cX5_smell 27 = .ok (.ireturn, 1) := by decide +kernel
theorem dX5_keeps_0 : decode cX5_keeps 0 = .ok (.aload_n 0, 1) := by decide +kernel
theorem dX5_keeps_1 : decode cX5_keeps 1 = .ok (.getfield 19, 3) := by decide +kernel
theorem dX5_keeps_4 : decode cX5_keeps 4 = .ok (.bipush 14, 2) := by decide +kernel
theorem dX5_keeps_6 : decode cX5_keeps 6 = .ok (.iaload, 1) := by decide +kernel
theorem dX5_keeps_7 : decode cX5_keeps 7 = .ok (.bipush 10, 2) := by decide +kernel
theorem dX5_keeps_9 : decode cX5_keeps 9 = .ok (.if_icmp .ne 45, 3) := by decide +kernel
theorem dX5_keeps_12 : decode cX5_keeps 12 = .ok (.bipush 15, 2) := by decide +kernel
theorem dX5_keeps_14 : decode cX5_keeps 14 = .ok (.istore_n 1, 1) := by decide +kernel
theorem dX5_keeps_15 : decode cX5_keeps 15 = .ok (.iload_n 1, 1) := by decide +kernel
theorem dX5_keeps_16 : decode cX5_keeps 16 = .ok (.sipush 141, 3) := by decide +kernel
theorem dX5_keeps_19 : decode cX5_keeps 19 = .ok (.if_icmp .ge 24, 3) := by decide +kernel
theorem dX5_keeps_22 : decode cX5_keeps 22 = .ok (.aload_n 0, 1) := by decide +kernel
theorem dX5_keeps_23 : decode cX5_keeps 23 = .ok (.getfield 19, 3) := by decide +kernel
theorem dX5_keeps_26 : decode cX5_keeps 26 = .ok (.iload_n 1, 1) := by decide +kernel
theorem dX5_keeps_27 : decode cX5_keeps 27 = .ok (.aload_n 0, 1) := by decide +kernel
theorem dX5_keeps_28 : decode cX5_keeps 28 = .ok (.getfield 19, 3) := by decide +kernel
theorem dX5_keeps_31 : decode cX5_keeps 31 = .ok (.iload_n 1, 1) := by decide +kernel
theorem dX5_keeps_32 : decode cX5_keeps 32 = .ok (.bipush 14, 2) := by decide +kernel
theorem dX5_keeps_34 : decode cX5_keeps 34 = .ok (.iadd, 1) := by decide +kernel
theorem dX5_keeps_35 : decode cX5_keeps 35 = .ok (.iaload, 1) := by decide +kernel
theorem dX5_keeps_36 : decode cX5_keeps 36 = .ok (.iastore, 1) := by decide +kernel
theorem dX5_keeps_37 : decode cX5_keeps 37 = .ok (.iinc 1 1, 3) := by decide +kernel
theorem dX5_keeps_40 : decode cX5_keeps 40 = .ok (.goto (-25), 3) := by decide +kernel
theorem dX5_keeps_43 : decode cX5_keeps 43 = .ok (.aload_n 0, 1) := by decide +kernel
theorem dX5_keeps_44 : decode cX5_keeps 44 = .ok (.getfield 19, 3) := by decide +kernel
theorem dX5_keeps_47 : decode cX5_keeps 47 = .ok (.bipush 14, 2) := by decide +kernel
theorem dX5_keeps_49 : decode cX5_keeps 49 = .ok (.dup2, 1) := by decide +kernel
theorem dX5_keeps_50 : decode cX5_keeps 50 = .ok (.iaload, 1) := by decide +kernel
theorem dX5_keeps_51 : decode cX5_keeps 51 = .ok (.iconst 1, 1) := by decide +kernel
theorem dX5_keeps_52 : decode cX5_keeps 52 = .ok (.isub, 1) := by decide +kernel
theorem dX5_keeps_53 : decode cX5_keeps 53 = .ok (.iastore, 1) := by decide +kernel
theorem dX5_keeps_54 : decode cX5_keeps 54 = .ok (.bipush 15, 2) := by decide +kernel
theorem dX5_keeps_56 : decode cX5_keeps 56 = .ok (.bipush 14, 2) := by decide +kernel
theorem dX5_keeps_58 : decode cX5_keeps 58 = .ok (.aload_n 0, 1) := by decide +kernel
theorem dX5_keeps_59 : decode cX5_keeps 59 = .ok (.getfield 19, 3) := by decide +kernel
theorem dX5_keeps_62 : decode cX5_keeps 62 = .ok (.bipush 14, 2) := by decide +kernel
theorem dX5_keeps_64 : decode cX5_keeps 64 = .ok (.iaload, 1) := by decide +kernel
theorem dX5_keeps_65 : decode cX5_keeps 65 = .ok (.imul, 1) := by decide +kernel
theorem dX5_keeps_66 : decode cX5_keeps 66 = .ok (.iadd, 1) := by decide +kernel
theorem dX5_keeps_67 : decode cX5_keeps 67 = .ok (.istore_n 1, 1) := by decide +kernel
theorem dX5_keeps_68 : decode cX5_keeps 68 = .ok (.iconst 0, 1) := by decide +kernel
theorem dX5_keeps_69 : decode cX5_keeps 69 = .ok (.istore_n 2, 1) := by decide +kernel
theorem dX5_keeps_70 : decode cX5_keeps 70 = .ok (.iload_n 2, 1) := by decide +kernel
theorem dX5_keeps_71 : decode cX5_keeps 71 = .ok (.bipush 14, 2) := by decide +kernel
theorem dX5_keeps_73 : decode cX5_keeps 73 = .ok (.if_icmp .ge 23, 3) := by decide +kernel
theorem dX5_keeps_76 : decode cX5_keeps 76 = .ok (.aload_n 0, 1) := by decide +kernel
theorem dX5_keeps_77 : decode cX5_keeps 77 = .ok (.getfield 19, 3) := by decide +kernel
theorem dX5_keeps_80 : decode cX5_keeps 80 = .ok (.iload_n 1, 1) := by decide +kernel
theorem dX5_keeps_81 : decode cX5_keeps 81 = .ok (.iload_n 2, 1) := by decide +kernel
theorem dX5_keeps_82 : decode cX5_keeps 82 = .ok (.iadd, 1) := by decide +kernel
theorem dX5_keeps_83 : decode cX5_keeps 83 = .ok (.aload_n 0, 1) := by decide +kernel
theorem dX5_keeps_84 : decode cX5_keeps 84 = .ok (.getfield 19, 3) := by decide +kernel
theorem dX5_keeps_87 : decode cX5_keeps 87 = .ok (.iload_n 2, 1) := by decide +kernel
theorem dX5_keeps_88 : decode cX5_keeps 88 = .ok (.iaload, 1) := by decide +kernel
theorem dX5_keeps_89 : decode cX5_keeps 89 = .ok (.iastore, 1) := by decide +kernel
theorem dX5_keeps_90 : decode cX5_keeps 90 = .ok (.iinc 2 1, 3) := by decide +kernel
theorem dX5_keeps_93 : decode cX5_keeps 93 = .ok (.goto (-23), 3) := by decide +kernel
theorem dX5_keeps_96 : decode cX5_keeps 96 = .ok (.aload_n 0, 1) := by decide +kernel
theorem dX5_keeps_97 : decode cX5_keeps 97 = .ok (.getfield 19, 3) := by decide +kernel
theorem dX5_keeps_100 : decode cX5_keeps 100 = .ok (.bipush 14, 2) := by decide +kernel
theorem dX5_keeps_102 : decode cX5_keeps 102 = .ok (.dup2, 1) := by decide +kernel
theorem dX5_keeps_103 : decode cX5_keeps 103 = .ok (.iaload, 1) := by decide +kernel
theorem dX5_keeps_104 : decode cX5_keeps 104 = .ok (.iconst 1, 1) := by decide +kernel
theorem dX5_keeps_105 : decode cX5_keeps 105 = .ok (.iadd, 1) := by decide +kernel
theorem dX5_keeps_106 : decode cX5_keeps 106 = .ok (.iastore, 1) := by decide +kernel
theorem dX5_keeps_107 : decode cX5_keeps 107 = .ok (.return_, 1) := by decide +kernel
theorem dX5_mayGo_0 : decode cX5_mayGo 0 = .ok (.aload_n 0, 1) := by decide +kernel
theorem dX5_mayGo_1 : decode cX5_mayGo 1 = .ok (.iload_n 1, 1) := by decide +kernel
theorem dX5_mayGo_2 : decode cX5_mayGo 2 = .ok (.invokevirtual 114, 3) := by decide +kernel
theorem dX5_mayGo_5 : decode cX5_mayGo 5 = .ok (.ifCond .eq 38, 3) := by decide +kernel
theorem dX5_mayGo_8 : decode cX5_mayGo 8 = .ok (.aload_n 0, 1) := by decide +kernel
theorem dX5_mayGo_9 : decode cX5_mayGo 9 = .ok (.getfield 19, 3) := by decide +kernel
theorem dX5_mayGo_12 : decode cX5_mayGo 12 = .ok (.bipush 13, 2) := by decide +kernel
theorem dX5_mayGo_14 : decode cX5_mayGo 14 = .ok (.iaload, 1) := by decide +kernel
theorem dX5_mayGo_15 : decode cX5_mayGo 15 = .ok (.aload_n 0, 1) := by decide +kernel
theorem dX5_mayGo_16 : decode cX5_mayGo 16 = .ok (.getfield 13, 3) := by decide +kernel
theorem dX5_mayGo_19 : decode cX5_mayGo 19 = .ok (.bipush 31, 2) := by decide +kernel
theorem dX5_mayGo_21 : decode cX5_mayGo 21 = .ok (.iload_n 1, 1) := by decide +kernel
theorem dX5_mayGo_22 : decode cX5_mayGo 22 = .ok (.iadd, 1) := by decide +kernel
theorem dX5_mayGo_23 : decode cX5_mayGo 23 = .ok (.iaload, 1) := by decide +kernel
theorem dX5_mayGo_24 : decode cX5_mayGo 24 = .ok (.aload_n 0, 1) := by decide +kernel
theorem dX5_mayGo_25 : decode cX5_mayGo 25 = .ok (.getfield 13, 3) := by decide +kernel
theorem dX5_mayGo_28 : decode cX5_mayGo 28 = .ok (.bipush 37, 2) := by decide +kernel
theorem dX5_mayGo_30 : decode cX5_mayGo 30 = .ok (.iload_n 1, 1) := by decide +kernel
theorem dX5_mayGo_31 : decode cX5_mayGo 31 = .ok (.iadd, 1) := by decide +kernel
theorem dX5_mayGo_32 : decode cX5_mayGo 32 = .ok (.iaload, 1) := by decide +kernel
theorem dX5_mayGo_33 : decode cX5_mayGo 33 = .ok (.invokestatic 49, 3) := by decide +kernel
theorem dX5_mayGo_36 : decode cX5_mayGo 36 = .ok (.ifCond .eq 7, 3) := by decide +kernel
theorem dX5_mayGo_39 : decode cX5_mayGo 39 = .ok (.iconst 1, 1) := by decide +kernel
theorem dX5_mayGo_40 : decode cX5_mayGo 40 = .ok (.goto 4, 3) := by decide +kernel
theorem dX5_mayGo_43 : decode cX5_mayGo 43 = .ok (.iconst 0, 1) := by decide +kernel
theorem dX5_mayGo_44 : decode cX5_mayGo 44 = .ok (.ireturn, 1) := by decide +kernel
theorem dX5_follows_0 : decode cX5_follows 0 = .ok (.aload_n 0, 1) := by decide +kernel
theorem dX5_follows_1 : decode cX5_follows 1 = .ok (.iload_n 1, 1) := by decide +kernel
theorem dX5_follows_2 : decode cX5_follows 2 = .ok (.invokevirtual 111, 3) := by decide +kernel
theorem dX5_follows_5 : decode cX5_follows 5 = .ok (.ifCond .ne 5, 3) := by decide +kernel
theorem dX5_follows_8 : decode cX5_follows 8 = .ok (.iconst (-1), 1) := by decide +kernel
theorem dX5_follows_9 : decode cX5_follows 9 = .ok (.ireturn, 1) := by decide +kernel
theorem dX5_follows_10 : decode cX5_follows 10 = .ok (.aload_n 0, 1) := by decide +kernel
theorem dX5_follows_11 : decode cX5_follows 11 = .ok (.iload_n 1, 1) := by decide +kernel
theorem dX5_follows_12 : decode cX5_follows 12 = .ok (.aload_n 0, 1) := by decide +kernel
theorem dX5_follows_13 : decode cX5_follows 13 = .ok (.getfield 19, 3) := by decide +kernel
theorem dX5_follows_16 : decode cX5_follows 16 = .ok (.bipush 12, 2) := by decide +kernel
theorem dX5_follows_18 : decode cX5_follows 18 = .ok (.iaload, 1) := by decide +kernel
theorem dX5_follows_19 : decode cX5_follows 19 = .ok (.invokevirtual 117, 3) := by decide +kernel
theorem dX5_follows_22 : decode cX5_follows 22 = .ok (.istore_n 2, 1) := by decide +kernel
theorem dX5_follows_23 : decode cX5_follows 23 = .ok (.aload_n 0, 1) := by decide +kernel
theorem dX5_follows_24 : decode cX5_follows 24 = .ok (.iload_n 1, 1) := by decide +kernel
theorem dX5_follows_25 : decode cX5_follows 25 = .ok (.invokevirtual 120, 3) := by decide +kernel
theorem dX5_follows_28 : decode cX5_follows 28 = .ok (.ifCond .eq 9, 3) := by decide +kernel
theorem dX5_follows_31 : decode cX5_follows 31 = .ok (.iload_n 2, 1) := by decide +kernel
theorem dX5_follows_32 : decode cX5_follows 32 = .ok (.bipush (-9), 2) := by decide +kernel
theorem dX5_follows_34 : decode cX5_follows 34 = .ok (.if_icmp .ne 6, 3) := by decide +kernel
theorem dX5_follows_37 : decode cX5_follows 37 = .ok (.bipush (-2), 2) := by decide +kernel
theorem dX5_follows_39 : decode cX5_follows 39 = .ok (.ireturn, 1) := by decide +kernel
theorem dX5_follows_40 : decode cX5_follows 40 = .ok (.aload_n 0, 1) := by decide +kernel
theorem dX5_follows_41 : decode cX5_follows 41 = .ok (.invokevirtual 123, 3) := by decide +kernel
theorem dX5_follows_44 : decode cX5_follows 44 = .ok (.aload_n 0, 1) := by decide +kernel
theorem dX5_follows_45 : decode cX5_follows 45 = .ok (.getfield 19, 3) := by decide +kernel
theorem dX5_follows_48 : decode cX5_follows 48 = .ok (.iload_n 1, 1) := by decide +kernel
theorem dX5_follows_49 : decode cX5_follows 49 = .ok (.iload_n 2, 1) := by decide +kernel
theorem dX5_follows_50 : decode cX5_follows 50 = .ok (.iastore, 1) := by decide +kernel
theorem dX5_follows_51 : decode cX5_follows 51 = .ok (.iload_n 2, 1) := by decide +kernel
theorem dX5_follows_52 : decode cX5_follows 52 = .ok (.ireturn, 1) := by decide +kernel
theorem dX5_puts_0 : decode cX5_puts 0 = .ok (.aload_n 0, 1) := by decide +kernel
theorem dX5_puts_1 : decode cX5_puts 1 = .ok (.iload_n 1, 1) := by decide +kernel
theorem dX5_puts_2 : decode cX5_puts 2 = .ok (.invokevirtual 111, 3) := by decide +kernel
theorem dX5_puts_5 : decode cX5_puts 5 = .ok (.ifCond .eq 11, 3) := by decide +kernel
theorem dX5_puts_8 : decode cX5_puts 8 = .ok (.aload_n 0, 1) := by decide +kernel
theorem dX5_puts_9 : decode cX5_puts 9 = .ok (.iload_n 2, 1) := by decide +kernel
theorem dX5_puts_10 : decode cX5_puts 10 = .ok (.invokevirtual 97, 3) := by decide +kernel
theorem dX5_puts_13 : decode cX5_puts 13 = .ok (.ifCond .ne 5, 3) := by decide +kernel
theorem dX5_puts_16 : decode cX5_puts 16 = .ok (.iconst (-1), 1) := by decide +kernel
theorem dX5_puts_17 : decode cX5_puts 17 = .ok (.ireturn, 1) := by decide +kernel
theorem dX5_puts_18 : decode cX5_puts 18 = .ok (.aload_n 0, 1) := by decide +kernel
theorem dX5_puts_19 : decode cX5_puts 19 = .ok (.iload_n 1, 1) := by decide +kernel
theorem dX5_puts_20 : decode cX5_puts 20 = .ok (.invokevirtual 120, 3) := by decide +kernel
theorem dX5_puts_23 : decode cX5_puts 23 = .ok (.ifCond .eq 11, 3) := by decide +kernel
theorem dX5_puts_26 : decode cX5_puts 26 = .ok (.aload_n 0, 1) := by decide +kernel
theorem dX5_puts_27 : decode cX5_puts 27 = .ok (.iload_n 2, 1) := by decide +kernel
theorem dX5_puts_28 : decode cX5_puts 28 = .ok (.invokevirtual 104, 3) := by decide +kernel
theorem dX5_puts_31 : decode cX5_puts 31 = .ok (.ifCond .eq 6, 3) := by decide +kernel
theorem dX5_puts_34 : decode cX5_puts 34 = .ok (.bipush (-2), 2) := by decide +kernel
theorem dX5_puts_36 : decode cX5_puts 36 = .ok (.ireturn, 1) := by decide +kernel
theorem dX5_puts_37 : decode cX5_puts 37 = .ok (.aload_n 0, 1) := by decide +kernel
theorem dX5_puts_38 : decode cX5_puts 38 = .ok (.invokevirtual 123, 3) := by decide +kernel
theorem dX5_puts_41 : decode cX5_puts 41 = .ok (.aload_n 0, 1) := by decide +kernel
theorem dX5_puts_42 : decode cX5_puts 42 = .ok (.getfield 19, 3) := by decide +kernel
theorem dX5_puts_45 : decode cX5_puts 45 = .ok (.iload_n 1, 1) := by decide +kernel
theorem dX5_puts_46 : decode cX5_puts 46 = .ok (.iload_n 2, 1) := by decide +kernel
theorem dX5_puts_47 : decode cX5_puts 47 = .ok (.iastore, 1) := by decide +kernel
theorem dX5_puts_48 : decode cX5_puts 48 = .ok (.aload_n 0, 1) := by decide +kernel
theorem dX5_puts_49 : decode cX5_puts 49 = .ok (.iload_n 2, 1) := by decide +kernel
theorem dX5_puts_50 : decode cX5_puts 50 = .ok (.invokevirtual 91, 3) := by decide +kernel
theorem dX5_puts_53 : decode cX5_puts 53 = .ok (.invokestatic 94, 3) := by decide +kernel
theorem dX5_puts_56 : decode cX5_puts 56 = .ok (.ireturn, 1) := by decide +kernel
theorem dX5_passes_0 : decode cX5_passes 0 = .ok (.iconst 0, 1) := by decide +kernel
theorem dX5_passes_1 : decode cX5_passes 1 = .ok (.istore_n 1, 1) := by decide +kernel
theorem dX5_passes_2 : decode cX5_passes 2 = .ok (.iconst 0, 1) := by decide +kernel
theorem dX5_passes_3 : decode cX5_passes 3 = .ok (.istore_n 2, 1) := by decide +kernel
theorem dX5_passes_4 : decode cX5_passes 4 = .ok (.iload_n 2, 1) := by decide +kernel
theorem dX5_passes_5 : decode cX5_passes 5 = .ok (.aload_n 0, 1) := by decide +kernel
theorem dX5_passes_6 : decode cX5_passes 6 = .ok (.getfield 13, 3) := by decide +kernel
theorem dX5_passes_9 : decode cX5_passes 9 = .ok (.iconst 1, 1) := by decide +kernel
theorem dX5_passes_10 : decode cX5_passes 10 = .ok (.iaload, 1) := by decide +kernel
theorem dX5_passes_11 : decode cX5_passes 11 = .ok (.if_icmp .ge 44, 3) := by decide +kernel
theorem dX5_passes_14 : decode cX5_passes 14 = .ok (.aload_n 0, 1) := by decide +kernel
theorem dX5_passes_15 : decode cX5_passes 15 = .ok (.getfield 19, 3) := by decide +kernel
theorem dX5_passes_18 : decode cX5_passes 18 = .ok (.bipush 6, 2) := by decide +kernel
theorem dX5_passes_20 : decode cX5_passes 20 = .ok (.iload_n 2, 1) := by decide +kernel
theorem dX5_passes_21 : decode cX5_passes 21 = .ok (.iadd, 1) := by decide +kernel
theorem dX5_passes_22 : decode cX5_passes 22 = .ok (.dup2, 1) := by decide +kernel
theorem dX5_passes_23 : decode cX5_passes 23 = .ok (.iaload, 1) := by decide +kernel
theorem dX5_passes_24 : decode cX5_passes 24 = .ok (.aload_n 0, 1) := by decide +kernel
theorem dX5_passes_25 : decode cX5_passes 25 = .ok (.getfield 19, 3) := by decide +kernel
theorem dX5_passes_28 : decode cX5_passes 28 = .ok (.iload_n 2, 1) := by decide +kernel
theorem dX5_passes_29 : decode cX5_passes 29 = .ok (.iaload, 1) := by decide +kernel
theorem dX5_passes_30 : decode cX5_passes 30 = .ok (.ifCond .lt 16, 3) := by decide +kernel
theorem dX5_passes_33 : decode cX5_passes 33 = .ok (.aload_n 0, 1) := by decide +kernel
theorem dX5_passes_34 : decode cX5_passes 34 = .ok (.aload_n 0, 1) := by decide +kernel
theorem dX5_passes_35 : decode cX5_passes 35 = .ok (.getfield 19, 3) := by decide +kernel
theorem dX5_passes_38 : decode cX5_passes 38 = .ok (.iload_n 2, 1) := by decide +kernel
theorem dX5_passes_39 : decode cX5_passes 39 = .ok (.iaload, 1) := by decide +kernel
theorem dX5_passes_40 : decode cX5_passes 40 = .ok (.invokevirtual 101, 3) := by decide +kernel
theorem dX5_passes_43 : decode cX5_passes 43 = .ok (.goto 4, 3) := by decide +kernel
theorem dX5_passes_46 : decode cX5_passes 46 = .ok (.iconst 0, 1) := by decide +kernel
theorem dX5_passes_47 : decode cX5_passes 47 = .ok (.iadd, 1) := by decide +kernel
theorem dX5_passes_48 : decode cX5_passes 48 = .ok (.iastore, 1) := by decide +kernel
theorem dX5_passes_49 : decode cX5_passes 49 = .ok (.iinc 2 1, 3) := by decide +kernel
theorem dX5_passes_52 : decode cX5_passes 52 = .ok (.goto (-48), 3) := by decide +kernel
theorem dX5_passes_55 : decode cX5_passes 55 = .ok (.iconst 0, 1) := by decide +kernel
theorem dX5_passes_56 : decode cX5_passes 56 = .ok (.istore_n 2, 1) := by decide +kernel
theorem dX5_passes_57 : decode cX5_passes 57 = .ok (.iload_n 2, 1) := by decide +kernel
theorem dX5_passes_58 : decode cX5_passes 58 = .ok (.aload_n 0, 1) := by decide +kernel
theorem dX5_passes_59 : decode cX5_passes 59 = .ok (.getfield 13, 3) := by decide +kernel
theorem dX5_passes_62 : decode cX5_passes 62 = .ok (.iconst 1, 1) := by decide +kernel
theorem dX5_passes_63 : decode cX5_passes 63 = .ok (.iaload, 1) := by decide +kernel
theorem dX5_passes_64 : decode cX5_passes 64 = .ok (.if_icmp .ge 50, 3) := by decide +kernel
theorem dX5_passes_67 : decode cX5_passes 67 = .ok (.aload_n 0, 1) := by decide +kernel
theorem dX5_passes_68 : decode cX5_passes 68 = .ok (.getfield 19, 3) := by decide +kernel
theorem dX5_passes_71 : decode cX5_passes 71 = .ok (.iload_n 2, 1) := by decide +kernel
theorem dX5_passes_72 : decode cX5_passes 72 = .ok (.iaload, 1) := by decide +kernel
theorem dX5_passes_73 : decode cX5_passes 73 = .ok (.ifCond .lt 35, 3) := by decide +kernel
theorem dX5_passes_76 : decode cX5_passes 76 = .ok (.aload_n 0, 1) := by decide +kernel
theorem dX5_passes_77 : decode cX5_passes 77 = .ok (.getfield 19, 3) := by decide +kernel
theorem dX5_passes_80 : decode cX5_passes 80 = .ok (.bipush 6, 2) := by decide +kernel
theorem dX5_passes_82 : decode cX5_passes 82 = .ok (.iload_n 2, 1) := by decide +kernel
theorem dX5_passes_83 : decode cX5_passes 83 = .ok (.iadd, 1) := by decide +kernel
theorem dX5_passes_84 : decode cX5_passes 84 = .ok (.iaload, 1) := by decide +kernel
theorem dX5_passes_85 : decode cX5_passes 85 = .ok (.aload_n 0, 1) := by decide +kernel
theorem dX5_passes_86 : decode cX5_passes 86 = .ok (.getfield 13, 3) := by decide +kernel
theorem dX5_passes_89 : decode cX5_passes 89 = .ok (.bipush 25, 2) := by decide +kernel
theorem dX5_passes_91 : decode cX5_passes 91 = .ok (.iload_n 2, 1) := by decide +kernel
theorem dX5_passes_92 : decode cX5_passes 92 = .ok (.iadd, 1) := by decide +kernel
theorem dX5_passes_93 : decode cX5_passes 93 = .ok (.iaload, 1) := by decide +kernel
theorem dX5_passes_94 : decode cX5_passes 94 = .ok (.if_icmp .lt 14, 3) := by decide +kernel
theorem dX5_passes_97 : decode cX5_passes 97 = .ok (.aload_n 0, 1) := by decide +kernel
theorem dX5_passes_98 : decode cX5_passes 98 = .ok (.getfield 19, 3) := by decide +kernel
theorem dX5_passes_101 : decode cX5_passes 101 = .ok (.iload_n 2, 1) := by decide +kernel
theorem dX5_passes_102 : decode cX5_passes 102 = .ok (.bipush (-5), 2) := by decide +kernel
theorem dX5_passes_104 : decode cX5_passes 104 = .ok (.iastore, 1) := by decide +kernel
theorem dX5_passes_105 : decode cX5_passes 105 = .ok (.iinc 1 1, 3) := by decide +kernel
theorem dX5_passes_108 : decode cX5_passes 108 = .ok (.iinc 2 1, 3) := by decide +kernel
theorem dX5_passes_111 : decode cX5_passes 111 = .ok (.goto (-54), 3) := by decide +kernel
theorem dX5_passes_114 : decode cX5_passes 114 = .ok (.aload_n 0, 1) := by decide +kernel
theorem dX5_passes_115 : decode cX5_passes 115 = .ok (.getfield 19, 3) := by decide +kernel
theorem dX5_passes_118 : decode cX5_passes 118 = .ok (.bipush 13, 2) := by decide +kernel
theorem dX5_passes_120 : decode cX5_passes 120 = .ok (.dup2, 1) := by decide +kernel
theorem dX5_passes_121 : decode cX5_passes 121 = .ok (.iaload, 1) := by decide +kernel
theorem dX5_passes_122 : decode cX5_passes 122 = .ok (.iconst 1, 1) := by decide +kernel
theorem dX5_passes_123 : decode cX5_passes 123 = .ok (.iadd, 1) := by decide +kernel
theorem dX5_passes_124 : decode cX5_passes 124 = .ok (.iastore, 1) := by decide +kernel
theorem dX5_passes_125 : decode cX5_passes 125 = .ok (.iload_n 1, 1) := by decide +kernel
theorem dX5_passes_126 : decode cX5_passes 126 = .ok (.ireturn, 1) := by decide +kernel
theorem dX5_minutes_0 : decode cX5_minutes 0 = .ok (.iload_n 1, 1) := by decide +kernel
theorem dX5_minutes_1 : decode cX5_minutes 1 = .ok (.iconst 1, 1) := by decide +kernel
theorem dX5_minutes_2 : decode cX5_minutes 2 = .ok (.bipush 60, 2) := by decide +kernel
theorem dX5_minutes_4 : decode cX5_minutes 4 = .ok (.invokestatic 49, 3) := by decide +kernel
theorem dX5_minutes_7 : decode cX5_minutes 7 = .ok (.ifCond .ne 5, 3) := by decide +kernel
theorem dX5_minutes_10 : decode cX5_minutes 10 = .ok (.iconst (-1), 1) := by decide +kernel
theorem dX5_minutes_11 : decode cX5_minutes 11 = .ok (.ireturn, 1) := by decide +kernel
theorem dX5_minutes_12 : decode cX5_minutes 12 = .ok (.aload_n 0, 1) := by decide +kernel
theorem dX5_minutes_13 : decode cX5_minutes 13 = .ok (.getfield 19, 3) := by decide +kernel
theorem dX5_minutes_16 : decode cX5_minutes 16 = .ok (.bipush 13, 2) := by decide +kernel
theorem dX5_minutes_18 : decode cX5_minutes 18 = .ok (.iaload, 1) := by decide +kernel
theorem dX5_minutes_19 : decode cX5_minutes 19 = .ok (.iload_n 1, 1) := by decide +kernel
theorem dX5_minutes_20 : decode cX5_minutes 20 = .ok (.iadd, 1) := by decide +kernel
theorem dX5_minutes_21 : decode cX5_minutes 21 = .ok (.sipush 999, 3) := by decide +kernel
theorem dX5_minutes_24 : decode cX5_minutes 24 = .ok (.if_icmp .le 6, 3) := by decide +kernel
theorem dX5_minutes_27 : decode cX5_minutes 27 = .ok (.bipush (-2), 2) := by decide +kernel
theorem dX5_minutes_29 : decode cX5_minutes 29 = .ok (.ireturn, 1) := by decide +kernel
theorem dX5_minutes_30 : decode cX5_minutes 30 = .ok (.aload_n 0, 1) := by decide +kernel
theorem dX5_minutes_31 : decode cX5_minutes 31 = .ok (.invokevirtual 123, 3) := by decide +kernel
theorem dX5_minutes_34 : decode cX5_minutes 34 = .ok (.iconst 0, 1) := by decide +kernel
theorem dX5_minutes_35 : decode cX5_minutes 35 = .ok (.istore_n 2, 1) := by decide +kernel
theorem dX5_minutes_36 : decode cX5_minutes 36 = .ok (.iconst 0, 1) := by decide +kernel
theorem dX5_minutes_37 : decode cX5_minutes 37 = .ok (.istore_n 3, 1) := by decide +kernel
theorem dX5_minutes_38 : decode cX5_minutes 38 = .ok (.iload_n 3, 1) := by decide +kernel
theorem dX5_minutes_39 : decode cX5_minutes 39 = .ok (.iload_n 1, 1) := by decide +kernel
theorem dX5_minutes_40 : decode cX5_minutes 40 = .ok (.if_icmp .ge 16, 3) := by decide +kernel
theorem dX5_minutes_43 : decode cX5_minutes 43 = .ok (.iload_n 2, 1) := by decide +kernel
theorem dX5_minutes_44 : decode cX5_minutes 44 = .ok (.aload_n 0, 1) := by decide +kernel
theorem dX5_minutes_45 : decode cX5_minutes 45 = .ok (.invokevirtual 126, 3) := by decide +kernel
theorem dX5_minutes_48 : decode cX5_minutes 48 = .ok (.iadd, 1) := by decide +kernel
theorem dX5_minutes_49 : decode cX5_minutes 49 = .ok (.istore_n 2, 1) := by decide +kernel
end
section
theorem dX5_minutes_50 : decode cX5_minutes 50 = .ok (.iinc 3 1, 3) := by decide +kernel
theorem dX5_minutes_53 : decode cX5_minutes 53 = .ok (.goto (-15), 3) := by decide +kernel
theorem dX5_minutes_56 : decode cX5_minutes 56 = .ok (.iload_n 2, 1) := by decide +kernel
theorem dX5_minutes_57 : decode cX5_minutes 57 = .ok (.ireturn, 1) := by decide +kernel
theorem dX5_shuts_0 : decode cX5_shuts 0 = .ok (.aload_n 0, 1) := by decide +kernel
theorem dX5_shuts_1 : decode cX5_shuts 1 = .ok (.iload_n 1, 1) := by decide +kernel
theorem dX5_shuts_2 : decode cX5_shuts 2 = .ok (.invokevirtual 97, 3) := by decide +kernel
theorem dX5_shuts_5 : decode cX5_shuts 5 = .ok (.ifCond .eq 12, 3) := by decide +kernel
theorem dX5_shuts_8 : decode cX5_shuts 8 = .ok (.iload_n 2, 1) := by decide +kernel
theorem dX5_shuts_9 : decode cX5_shuts 9 = .ok (.iconst 0, 1) := by decide +kernel
theorem dX5_shuts_10 : decode cX5_shuts 10 = .ok (.iconst 1, 1) := by decide +kernel
theorem dX5_shuts_11 : decode cX5_shuts 11 = .ok (.invokestatic 49, 3) := by decide +kernel
theorem dX5_shuts_14 : decode cX5_shuts 14 = .ok (.ifCond .ne 5, 3) := by decide +kernel
theorem dX5_shuts_17 : decode cX5_shuts 17 = .ok (.iconst (-1), 1) := by decide +kernel
theorem dX5_shuts_18 : decode cX5_shuts 18 = .ok (.ireturn, 1) := by decide +kernel
theorem dX5_shuts_19 : decode cX5_shuts 19 = .ok (.aload_n 0, 1) := by decide +kernel
theorem dX5_shuts_20 : decode cX5_shuts 20 = .ok (.getfield 19, 3) := by decide +kernel
theorem dX5_shuts_23 : decode cX5_shuts 23 = .ok (.bipush 12, 2) := by decide +kernel
theorem dX5_shuts_25 : decode cX5_shuts 25 = .ok (.iaload, 1) := by decide +kernel
theorem dX5_shuts_26 : decode cX5_shuts 26 = .ok (.iload_n 1, 1) := by decide +kernel
theorem dX5_shuts_27 : decode cX5_shuts 27 = .ok (.ishr, 1) := by decide +kernel
theorem dX5_shuts_28 : decode cX5_shuts 28 = .ok (.iconst 1, 1) := by decide +kernel
theorem dX5_shuts_29 : decode cX5_shuts 29 = .ok (.iand, 1) := by decide +kernel
theorem dX5_shuts_30 : decode cX5_shuts 30 = .ok (.iload_n 2, 1) := by decide +kernel
theorem dX5_shuts_31 : decode cX5_shuts 31 = .ok (.if_icmp .ne 6, 3) := by decide +kernel
theorem dX5_shuts_34 : decode cX5_shuts 34 = .ok (.bipush (-2), 2) := by decide +kernel
theorem dX5_shuts_36 : decode cX5_shuts 36 = .ok (.ireturn, 1) := by decide +kernel
theorem dX5_shuts_37 : decode cX5_shuts 37 = .ok (.aload_n 0, 1) := by decide +kernel
theorem dX5_shuts_38 : decode cX5_shuts 38 = .ok (.invokevirtual 123, 3) := by decide +kernel
theorem dX5_shuts_41 : decode cX5_shuts 41 = .ok (.aload_n 0, 1) := by decide +kernel
theorem dX5_shuts_42 : decode cX5_shuts 42 = .ok (.getfield 19, 3) := by decide +kernel
theorem dX5_shuts_45 : decode cX5_shuts 45 = .ok (.bipush 12, 2) := by decide +kernel
theorem dX5_shuts_47 : decode cX5_shuts 47 = .ok (.dup2, 1) := by decide +kernel
theorem dX5_shuts_48 : decode cX5_shuts 48 = .ok (.iaload, 1) := by decide +kernel
theorem dX5_shuts_49 : decode cX5_shuts 49 = .ok (.iconst 1, 1) := by decide +kernel
theorem dX5_shuts_50 : decode cX5_shuts 50 = .ok (.iload_n 1, 1) := by decide +kernel
theorem dX5_shuts_51 : decode cX5_shuts 51 = .ok (.ishl, 1) := by decide +kernel
theorem dX5_shuts_52 : decode cX5_shuts 52 = .ok (.ixor, 1) := by decide +kernel
theorem dX5_shuts_53 : decode cX5_shuts 53 = .ok (.iastore, 1) := by decide +kernel
theorem dX5_shuts_54 : decode cX5_shuts 54 = .ok (.aload_n 0, 1) := by decide +kernel
theorem dX5_shuts_55 : decode cX5_shuts 55 = .ok (.getfield 19, 3) := by decide +kernel
theorem dX5_shuts_58 : decode cX5_shuts 58 = .ok (.bipush 12, 2) := by decide +kernel
theorem dX5_shuts_60 : decode cX5_shuts 60 = .ok (.iaload, 1) := by decide +kernel
theorem dX5_shuts_61 : decode cX5_shuts 61 = .ok (.invokestatic 94, 3) := by decide +kernel
theorem dX5_shuts_64 : decode cX5_shuts 64 = .ok (.ireturn, 1) := by decide +kernel
theorem dX5_undo_0 : decode cX5_undo 0 = .ok (.aload_n 0, 1) := by decide +kernel
theorem dX5_undo_1 : decode cX5_undo 1 = .ok (.getfield 19, 3) := by decide +kernel
theorem dX5_undo_4 : decode cX5_undo 4 = .ok (.bipush 14, 2) := by decide +kernel
theorem dX5_undo_6 : decode cX5_undo 6 = .ok (.iaload, 1) := by decide +kernel
theorem dX5_undo_7 : decode cX5_undo 7 = .ok (.ifCond .ne 6, 3) := by decide +kernel
theorem dX5_undo_10 : decode cX5_undo 10 = .ok (.bipush (-2), 2) := by decide +kernel
theorem dX5_undo_12 : decode cX5_undo 12 = .ok (.ireturn, 1) := by decide +kernel
theorem dX5_undo_13 : decode cX5_undo 13 = .ok (.aload_n 0, 1) := by decide +kernel
theorem dX5_undo_14 : decode cX5_undo 14 = .ok (.getfield 19, 3) := by decide +kernel
theorem dX5_undo_17 : decode cX5_undo 17 = .ok (.bipush 14, 2) := by decide +kernel
theorem dX5_undo_19 : decode cX5_undo 19 = .ok (.dup2, 1) := by decide +kernel
theorem dX5_undo_20 : decode cX5_undo 20 = .ok (.iaload, 1) := by decide +kernel
theorem dX5_undo_21 : decode cX5_undo 21 = .ok (.iconst 1, 1) := by decide +kernel
theorem dX5_undo_22 : decode cX5_undo 22 = .ok (.isub, 1) := by decide +kernel
theorem dX5_undo_23 : decode cX5_undo 23 = .ok (.iastore, 1) := by decide +kernel
theorem dX5_undo_24 : decode cX5_undo 24 = .ok (.bipush 15, 2) := by decide +kernel
theorem dX5_undo_26 : decode cX5_undo 26 = .ok (.bipush 14, 2) := by decide +kernel
theorem dX5_undo_28 : decode cX5_undo 28 = .ok (.aload_n 0, 1) := by decide +kernel
theorem dX5_undo_29 : decode cX5_undo 29 = .ok (.getfield 19, 3) := by decide +kernel
theorem dX5_undo_32 : decode cX5_undo 32 = .ok (.bipush 14, 2) := by decide +kernel
theorem dX5_undo_34 : decode cX5_undo 34 = .ok (.iaload, 1) := by decide +kernel
theorem dX5_undo_35 : decode cX5_undo 35 = .ok (.imul, 1) := by decide +kernel
theorem dX5_undo_36 : decode cX5_undo 36 = .ok (.iadd, 1) := by decide +kernel
theorem dX5_undo_37 : decode cX5_undo 37 = .ok (.istore_n 1, 1) := by decide +kernel
theorem dX5_undo_38 : decode cX5_undo 38 = .ok (.iconst 0, 1) := by decide +kernel
theorem dX5_undo_39 : decode cX5_undo 39 = .ok (.istore_n 2, 1) := by decide +kernel
theorem dX5_undo_40 : decode cX5_undo 40 = .ok (.iload_n 2, 1) := by decide +kernel
theorem dX5_undo_41 : decode cX5_undo 41 = .ok (.bipush 14, 2) := by decide +kernel
theorem dX5_undo_43 : decode cX5_undo 43 = .ok (.if_icmp .ge 23, 3) := by decide +kernel
theorem dX5_undo_46 : decode cX5_undo 46 = .ok (.aload_n 0, 1) := by decide +kernel
theorem dX5_undo_47 : decode cX5_undo 47 = .ok (.getfield 19, 3) := by decide +kernel
theorem dX5_undo_50 : decode cX5_undo 50 = .ok (.iload_n 2, 1) := by decide +kernel
theorem dX5_undo_51 : decode cX5_undo 51 = .ok (.aload_n 0, 1) := by decide +kernel
theorem dX5_undo_52 : decode cX5_undo 52 = .ok (.getfield 19, 3) := by decide +kernel
theorem dX5_undo_55 : decode cX5_undo 55 = .ok (.iload_n 1, 1) := by decide +kernel
theorem dX5_undo_56 : decode cX5_undo 56 = .ok (.iload_n 2, 1) := by decide +kernel
theorem dX5_undo_57 : decode cX5_undo 57 = .ok (.iadd, 1) := by decide +kernel
theorem dX5_undo_58 : decode cX5_undo 58 = .ok (.iaload, 1) := by decide +kernel
theorem dX5_undo_59 : decode cX5_undo 59 = .ok (.iastore, 1) := by decide +kernel
theorem dX5_undo_60 : decode cX5_undo 60 = .ok (.iinc 2 1, 3) := by decide +kernel
theorem dX5_undo_63 : decode cX5_undo 63 = .ok (.goto (-23), 3) := by decide +kernel
theorem dX5_undo_66 : decode cX5_undo 66 = .ok (.aload_n 0, 1) := by decide +kernel
theorem dX5_undo_67 : decode cX5_undo 67 = .ok (.getfield 19, 3) := by decide +kernel
theorem dX5_undo_70 : decode cX5_undo 70 = .ok (.bipush 14, 2) := by decide +kernel
theorem dX5_undo_72 : decode cX5_undo 72 = .ok (.iaload, 1) := by decide +kernel
theorem dX5_undo_73 : decode cX5_undo 73 = .ok (.ireturn, 1) := by decide +kernel
theorem dX5_now_0 : decode cX5_now 0 = .ok (.iconst 0, 1) := by decide +kernel
theorem dX5_now_1 : decode cX5_now 1 = .ok (.istore_n 2, 1) := by decide +kernel
theorem dX5_now_2 : decode cX5_now 2 = .ok (.iconst 0, 1) := by decide +kernel
theorem dX5_now_3 : decode cX5_now 3 = .ok (.istore_n 3, 1) := by decide +kernel
theorem dX5_now_4 : decode cX5_now 4 = .ok (.iload_n 3, 1) := by decide +kernel
theorem dX5_now_5 : decode cX5_now 5 = .ok (.aload_n 0, 1) := by decide +kernel
theorem dX5_now_6 : decode cX5_now 6 = .ok (.getfield 13, 3) := by decide +kernel
theorem dX5_now_9 : decode cX5_now 9 = .ok (.iconst 1, 1) := by decide +kernel
theorem dX5_now_10 : decode cX5_now 10 = .ok (.iaload, 1) := by decide +kernel
theorem dX5_now_11 : decode cX5_now 11 = .ok (.if_icmp .ge 46, 3) := by decide +kernel
theorem dX5_now_14 : decode cX5_now 14 = .ok (.iload_n 2, 1) := by decide +kernel
theorem dX5_now_15 : decode cX5_now 15 = .ok (.aload_n 0, 1) := by decide +kernel
theorem dX5_now_16 : decode cX5_now 16 = .ok (.iload_n 3, 1) := by decide +kernel
theorem dX5_now_17 : decode cX5_now 17 = .ok (.invokevirtual 114, 3) := by decide +kernel
theorem dX5_now_20 : decode cX5_now 20 = .ok (.ifCond .eq 28, 3) := by decide +kernel
theorem dX5_now_23 : decode cX5_now 23 = .ok (.aload_n 0, 1) := by decide +kernel
theorem dX5_now_24 : decode cX5_now 24 = .ok (.getfield 19, 3) := by decide +kernel
theorem dX5_now_27 : decode cX5_now 27 = .ok (.bipush 13, 2) := by decide +kernel
theorem dX5_now_29 : decode cX5_now 29 = .ok (.iaload, 1) := by decide +kernel
theorem dX5_now_30 : decode cX5_now 30 = .ok (.aload_n 0, 1) := by decide +kernel
theorem dX5_now_31 : decode cX5_now 31 = .ok (.getfield 13, 3) := by decide +kernel
theorem dX5_now_34 : decode cX5_now 34 = .ok (.bipush 37, 2) := by decide +kernel
theorem dX5_now_36 : decode cX5_now 36 = .ok (.iload_n 3, 1) := by decide +kernel
theorem dX5_now_37 : decode cX5_now 37 = .ok (.iadd, 1) := by decide +kernel
theorem dX5_now_38 : decode cX5_now 38 = .ok (.iaload, 1) := by decide +kernel
theorem dX5_now_39 : decode cX5_now 39 = .ok (.if_icmp .le 9, 3) := by decide +kernel
theorem dX5_now_42 : decode cX5_now 42 = .ok (.iconst 1, 1) := by decide +kernel
theorem dX5_now_43 : decode cX5_now 43 = .ok (.iload_n 3, 1) := by decide +kernel
theorem dX5_now_44 : decode cX5_now 44 = .ok (.ishl, 1) := by decide +kernel
theorem dX5_now_45 : decode cX5_now 45 = .ok (.goto 4, 3) := by decide +kernel
theorem dX5_now_48 : decode cX5_now 48 = .ok (.iconst 0, 1) := by decide +kernel
theorem dX5_now_49 : decode cX5_now 49 = .ok (.ior, 1) := by decide +kernel
theorem dX5_now_50 : decode cX5_now 50 = .ok (.istore_n 2, 1) := by decide +kernel
theorem dX5_now_51 : decode cX5_now 51 = .ok (.iinc 3 1, 3) := by decide +kernel
theorem dX5_now_54 : decode cX5_now 54 = .ok (.goto (-50), 3) := by decide +kernel
theorem dX5_now_57 : decode cX5_now 57 = .ok (.iload_n 1, 1) := by decide +kernel
theorem dX5_now_58 : decode cX5_now 58 = .ok (.tableswitch 66 0 4 #[34, 42, 49, 56, 58], 34) := by decide +kernel
theorem dX5_now_92 : decode cX5_now 92 = .ok (.aload_n 0, 1) := by decide +kernel
theorem dX5_now_93 : decode cX5_now 93 = .ok (.getfield 19, 3) := by decide +kernel
theorem dX5_now_96 : decode cX5_now 96 = .ok (.bipush 13, 2) := by decide +kernel
theorem dX5_now_98 : decode cX5_now 98 = .ok (.iaload, 1) := by decide +kernel
theorem dX5_now_99 : decode cX5_now 99 = .ok (.ireturn, 1) := by decide +kernel
theorem dX5_now_100 : decode cX5_now 100 = .ok (.aload_n 0, 1) := by decide +kernel
theorem dX5_now_101 : decode cX5_now 101 = .ok (.bipush (-9), 2) := by decide +kernel
theorem dX5_now_103 : decode cX5_now 103 = .ok (.invokevirtual 91, 3) := by decide +kernel
theorem dX5_now_106 : decode cX5_now 106 = .ok (.ireturn, 1) := by decide +kernel
theorem dX5_now_107 : decode cX5_now 107 = .ok (.aload_n 0, 1) := by decide +kernel
theorem dX5_now_108 : decode cX5_now 108 = .ok (.bipush (-5), 2) := by decide +kernel
theorem dX5_now_110 : decode cX5_now 110 = .ok (.invokevirtual 91, 3) := by decide +kernel
theorem dX5_now_113 : decode cX5_now 113 = .ok (.ireturn, 1) := by decide +kernel
theorem dX5_now_114 : decode cX5_now 114 = .ok (.iload_n 2, 1) := by decide +kernel
theorem dX5_now_115 : decode cX5_now 115 = .ok (.ireturn, 1) := by decide +kernel
theorem dX5_now_116 : decode cX5_now 116 = .ok (.aload_n 0, 1) := by decide +kernel
theorem dX5_now_117 : decode cX5_now 117 = .ok (.getfield 19, 3) := by decide +kernel
theorem dX5_now_120 : decode cX5_now 120 = .ok (.bipush 12, 2) := by decide +kernel
theorem dX5_now_122 : decode cX5_now 122 = .ok (.iaload, 1) := by decide +kernel
theorem dX5_now_123 : decode cX5_now 123 = .ok (.ireturn, 1) := by decide +kernel
theorem dX5_now_124 : decode cX5_now 124 = .ok (.iconst (-1), 1) := by decide +kernel
theorem dX5_now_125 : decode cX5_now 125 = .ok (.ireturn, 1) := by decide +kernel
theorem dX5_holds_0 : decode cX5_holds 0 = .ok (.iconst 0, 1) := by decide +kernel
theorem dX5_holds_1 : decode cX5_holds 1 = .ok (.istore_n 1, 1) := by decide +kernel
theorem dX5_holds_2 : decode cX5_holds 2 = .ok (.iload_n 1, 1) := by decide +kernel
theorem dX5_holds_3 : decode cX5_holds 3 = .ok (.bipush 14, 2) := by decide +kernel
theorem dX5_holds_5 : decode cX5_holds 5 = .ok (.if_icmp .ge 21, 3) := by decide +kernel
theorem dX5_holds_8 : decode cX5_holds 8 = .ok (.aload_n 0, 1) := by decide +kernel
theorem dX5_holds_9 : decode cX5_holds 9 = .ok (.getfield 36, 3) := by decide +kernel
theorem dX5_holds_12 : decode cX5_holds 12 = .ok (.iload_n 1, 1) := by decide +kernel
theorem dX5_holds_13 : decode cX5_holds 13 = .ok (.aload_n 0, 1) := by decide +kernel
theorem dX5_holds_14 : decode cX5_holds 14 = .ok (.getfield 19, 3) := by decide +kernel
theorem dX5_holds_17 : decode cX5_holds 17 = .ok (.iload_n 1, 1) := by decide +kernel
theorem dX5_holds_18 : decode cX5_holds 18 = .ok (.iaload, 1) := by decide +kernel
theorem dX5_holds_19 : decode cX5_holds 19 = .ok (.iastore, 1) := by decide +kernel
theorem dX5_holds_20 : decode cX5_holds 20 = .ok (.iinc 1 1, 3) := by decide +kernel
theorem dX5_holds_23 : decode cX5_holds 23 = .ok (.goto (-21), 3) := by decide +kernel
theorem dX5_holds_26 : decode cX5_holds 26 = .ok (.return_, 1) := by decide +kernel
theorem dX5_lets_0 : decode cX5_lets 0 = .ok (.iconst 0, 1) := by decide +kernel
theorem dX5_lets_1 : decode cX5_lets 1 = .ok (.istore_n 1, 1) := by decide +kernel
theorem dX5_lets_2 : decode cX5_lets 2 = .ok (.iload_n 1, 1) := by decide +kernel
theorem dX5_lets_3 : decode cX5_lets 3 = .ok (.bipush 14, 2) := by decide +kernel
theorem dX5_lets_5 : decode cX5_lets 5 = .ok (.if_icmp .ge 21, 3) := by decide +kernel
theorem dX5_lets_8 : decode cX5_lets 8 = .ok (.aload_n 0, 1) := by decide +kernel
theorem dX5_lets_9 : decode cX5_lets 9 = .ok (.getfield 19, 3) := by decide +kernel
theorem dX5_lets_12 : decode cX5_lets 12 = .ok (.iload_n 1, 1) := by decide +kernel
theorem dX5_lets_13 : decode cX5_lets 13 = .ok (.aload_n 0, 1) := by decide +kernel
theorem dX5_lets_14 : decode cX5_lets 14 = .ok (.getfield 36, 3) := by decide +kernel
theorem dX5_lets_17 : decode cX5_lets 17 = .ok (.iload_n 1, 1) := by decide +kernel
theorem dX5_lets_18 : decode cX5_lets 18 = .ok (.iaload, 1) := by decide +kernel
theorem dX5_lets_19 : decode cX5_lets 19 = .ok (.iastore, 1) := by decide +kernel
theorem dX5_lets_20 : decode cX5_lets 20 = .ok (.iinc 1 1, 3) := by decide +kernel
theorem dX5_lets_23 : decode cX5_lets 23 = .ok (.goto (-21), 3) := by decide +kernel
theorem dX5_lets_26 : decode cX5_lets 26 = .ok (.return_, 1) := by decide +kernel
theorem dX5_when_0 : decode cX5_when 0 = .ok (.aload_n 0, 1) := by decide +kernel
theorem dX5_when_1 : decode cX5_when 1 = .ok (.iload_n 1, 1) := by decide +kernel
theorem dX5_when_2 : decode cX5_when 2 = .ok (.invokevirtual 111, 3) := by decide +kernel
theorem dX5_when_5 : decode cX5_when 5 = .ok (.ifCond .ne 5, 3) := by decide +kernel
theorem dX5_when_8 : decode cX5_when 8 = .ok (.iconst (-1), 1) := by decide +kernel
theorem dX5_when_9 : decode cX5_when 9 = .ok (.ireturn, 1) := by decide +kernel
theorem dX5_when_10 : decode cX5_when 10 = .ok (.aload_n 0, 1) := by decide +kernel
theorem dX5_when_11 : decode cX5_when 11 = .ok (.getfield 19, 3) := by decide +kernel
theorem dX5_when_14 : decode cX5_when 14 = .ok (.iload_n 1, 1) := by decide +kernel
theorem dX5_when_15 : decode cX5_when 15 = .ok (.iaload, 1) := by decide +kernel
theorem dX5_when_16 : decode cX5_when 16 = .ok (.ifCond .ge 6, 3) := by decide +kernel
theorem dX5_when_19 : decode cX5_when 19 = .ok (.bipush (-2), 2) := by decide +kernel
theorem dX5_when_21 : decode cX5_when 21 = .ok (.ireturn, 1) := by decide +kernel
theorem dX5_when_22 : decode cX5_when 22 = .ok (.aload_n 0, 1) := by decide +kernel
theorem dX5_when_23 : decode cX5_when 23 = .ok (.invokevirtual 130, 3) := by decide +kernel
theorem dX5_when_26 : decode cX5_when 26 = .ok (.bipush (-9), 2) := by decide +kernel
theorem dX5_when_28 : decode cX5_when 28 = .ok (.istore_n 2, 1) := by decide +kernel
theorem dX5_when_29 : decode cX5_when 29 = .ok (.iconst 0, 1) := by decide +kernel
theorem dX5_when_30 : decode cX5_when 30 = .ok (.istore_n 3, 1) := by decide +kernel
theorem dX5_when_31 : decode cX5_when 31 = .ok (.iload_n 3, 1) := by decide +kernel
theorem dX5_when_32 : decode cX5_when 32 = .ok (.sipush 200, 3) := by decide +kernel
theorem dX5_when_35 : decode cX5_when 35 = .ok (.if_icmp .ge 44, 3) := by decide +kernel
theorem dX5_when_38 : decode cX5_when 38 = .ok (.iload_n 2, 1) := by decide +kernel
theorem dX5_when_39 : decode cX5_when 39 = .ok (.bipush (-9), 2) := by decide +kernel
theorem dX5_when_41 : decode cX5_when 41 = .ok (.if_icmp .ne 38, 3) := by decide +kernel
theorem dX5_when_44 : decode cX5_when 44 = .ok (.aload_n 0, 1) := by decide +kernel
theorem dX5_when_45 : decode cX5_when 45 = .ok (.invokevirtual 126, 3) := by decide +kernel
theorem dX5_when_48 : decode cX5_when 48 = .ok (.pop, 1) := by decide +kernel
theorem dX5_when_49 : decode cX5_when 49 = .ok (.aload_n 0, 1) := by decide +kernel
theorem dX5_when_50 : decode cX5_when 50 = .ok (.getfield 19, 3) := by decide +kernel
theorem dX5_when_53 : decode cX5_when 53 = .ok (.iload_n 1, 1) := by decide +kernel
theorem dX5_when_54 : decode cX5_when 54 = .ok (.iaload, 1) := by decide +kernel
theorem dX5_when_55 : decode cX5_when 55 = .ok (.bipush (-5), 2) := by decide +kernel
theorem dX5_when_57 : decode cX5_when 57 = .ok (.if_icmp .ne 13, 3) := by decide +kernel
theorem dX5_when_60 : decode cX5_when 60 = .ok (.aload_n 0, 1) := by decide +kernel
theorem dX5_when_61 : decode cX5_when 61 = .ok (.getfield 19, 3) := by decide +kernel
theorem dX5_when_64 : decode cX5_when 64 = .ok (.bipush 13, 2) := by decide +kernel
theorem dX5_when_66 : decode cX5_when 66 = .ok (.iaload, 1) := by decide +kernel
theorem dX5_when_67 : decode cX5_when 67 = .ok (.goto 5, 3) := by decide +kernel
theorem dX5_when_70 : decode cX5_when 70 = .ok (.bipush (-9), 2) := by decide +kernel
theorem dX5_when_72 : decode cX5_when 72 = .ok (.istore_n 2, 1) := by decide +kernel
theorem dX5_when_73 : decode cX5_when 73 = .ok (.iinc 3 1, 3) := by decide +kernel
theorem dX5_when_76 : decode cX5_when 76 = .ok (.goto (-45), 3) := by decide +kernel
theorem dX5_when_79 : decode cX5_when 79 = .ok (.aload_n 0, 1) := by decide +kernel
theorem dX5_when_80 : decode cX5_when 80 = .ok (.invokevirtual 133, 3) := by decide +kernel
theorem dX5_when_83 : decode cX5_when 83 = .ok (.iload_n 2, 1) := by decide +kernel
theorem dX5_when_84 : decode cX5_when 84 = .ok (.ireturn, 1) := by decide +kernel
theorem dX5_moved_0 : decode cX5_moved 0 = .ok (.aload_n 0, 1) := by decide +kernel
theorem dX5_moved_1 : decode cX5_moved 1 = .ok (.iload_n 1, 1) := by decide +kernel
theorem dX5_moved_2 : decode cX5_moved 2 = .ok (.invokevirtual 97, 3) := by decide +kernel
theorem dX5_moved_5 : decode cX5_moved 5 = .ok (.ifCond .ne 5, 3) := by decide +kernel
theorem dX5_moved_8 : decode cX5_moved 8 = .ok (.iconst (-1), 1) := by decide +kernel
theorem dX5_moved_9 : decode cX5_moved 9 = .ok (.ireturn, 1) := by decide +kernel
theorem dX5_moved_10 : decode cX5_moved 10 = .ok (.aload_n 0, 1) := by decide +kernel
theorem dX5_moved_11 : decode cX5_moved 11 = .ok (.iload_n 1, 1) := by decide +kernel
theorem dX5_moved_12 : decode cX5_moved 12 = .ok (.invokevirtual 104, 3) := by decide +kernel
theorem dX5_moved_15 : decode cX5_moved 15 = .ok (.ifCond .eq 6, 3) := by decide +kernel
theorem dX5_moved_18 : decode cX5_moved 18 = .ok (.bipush (-2), 2) := by decide +kernel
theorem dX5_moved_20 : decode cX5_moved 20 = .ok (.ireturn, 1) := by decide +kernel
theorem dX5_moved_21 : decode cX5_moved 21 = .ok (.iconst 0, 1) := by decide +kernel
theorem dX5_moved_22 : decode cX5_moved 22 = .ok (.istore_n 2, 1) := by decide +kernel
theorem dX5_moved_23 : decode cX5_moved 23 = .ok (.iconst 0, 1) := by decide +kernel
theorem dX5_moved_24 : decode cX5_moved 24 = .ok (.istore_n 3, 1) := by decide +kernel
theorem dX5_moved_25 : decode cX5_moved 25 = .ok (.iload_n 3, 1) := by decide +kernel
theorem dX5_moved_26 : decode cX5_moved 26 = .ok (.aload_n 0, 1) := by decide +kernel
theorem dX5_moved_27 : decode cX5_moved 27 = .ok (.getfield 13, 3) := by decide +kernel
theorem dX5_moved_30 : decode cX5_moved 30 = .ok (.iconst 1, 1) := by decide +kernel
theorem dX5_moved_31 : decode cX5_moved 31 = .ok (.iaload, 1) := by decide +kernel
theorem dX5_moved_32 : decode cX5_moved 32 = .ok (.if_icmp .ge 58, 3) := by decide +kernel
theorem dX5_moved_35 : decode cX5_moved 35 = .ok (.iload_n 2, 1) := by decide +kernel
theorem dX5_moved_36 : decode cX5_moved 36 = .ok (.aload_n 0, 1) := by decide +kernel
theorem dX5_moved_37 : decode cX5_moved 37 = .ok (.iload_n 3, 1) := by decide +kernel
theorem dX5_moved_38 : decode cX5_moved 38 = .ok (.invokevirtual 114, 3) := by decide +kernel
theorem dX5_moved_41 : decode cX5_moved 41 = .ok (.ifCond .eq 40, 3) := by decide +kernel
theorem dX5_moved_44 : decode cX5_moved 44 = .ok (.aload_n 0, 1) := by decide +kernel
theorem dX5_moved_45 : decode cX5_moved 45 = .ok (.iload_n 3, 1) := by decide +kernel
theorem dX5_moved_46 : decode cX5_moved 46 = .ok (.aload_n 0, 1) := by decide +kernel
theorem dX5_moved_47 : decode cX5_moved 47 = .ok (.getfield 19, 3) := by decide +kernel
theorem dX5_moved_50 : decode cX5_moved 50 = .ok (.bipush 12, 2) := by decide +kernel
theorem dX5_moved_52 : decode cX5_moved 52 = .ok (.iaload, 1) := by decide +kernel
theorem dX5_moved_53 : decode cX5_moved 53 = .ok (.invokevirtual 117, 3) := by decide +kernel
theorem dX5_moved_56 : decode cX5_moved 56 = .ok (.aload_n 0, 1) := by decide +kernel
theorem dX5_moved_57 : decode cX5_moved 57 = .ok (.iload_n 3, 1) := by decide +kernel
theorem dX5_moved_58 : decode cX5_moved 58 = .ok (.aload_n 0, 1) := by decide +kernel
theorem dX5_moved_59 : decode cX5_moved 59 = .ok (.getfield 19, 3) := by decide +kernel
theorem dX5_moved_62 : decode cX5_moved 62 = .ok (.bipush 12, 2) := by decide +kernel
theorem dX5_moved_64 : decode cX5_moved 64 = .ok (.iaload, 1) := by decide +kernel
theorem dX5_moved_65 : decode cX5_moved 65 = .ok (.iconst 1, 1) := by decide +kernel
theorem dX5_moved_66 : decode cX5_moved 66 = .ok (.iload_n 1, 1) := by decide +kernel
theorem dX5_moved_67 : decode cX5_moved 67 = .ok (.ishl, 1) := by decide +kernel
theorem dX5_moved_68 : decode cX5_moved 68 = .ok (.ior, 1) := by decide +kernel
theorem dX5_moved_69 : decode cX5_moved 69 = .ok (.invokevirtual 117, 3) := by decide +kernel
theorem dX5_moved_72 : decode cX5_moved 72 = .ok (.if_icmp .eq 9, 3) := by decide +kernel
theorem dX5_moved_75 : decode cX5_moved 75 = .ok (.iconst 1, 1) := by decide +kernel
theorem dX5_moved_76 : decode cX5_moved 76 = .ok (.iload_n 3, 1) := by decide +kernel
theorem dX5_moved_77 : decode cX5_moved 77 = .ok (.ishl, 1) := by decide +kernel
theorem dX5_moved_78 : decode cX5_moved 78 = .ok (.goto 4, 3) := by decide +kernel
theorem dX5_moved_81 : decode cX5_moved 81 = .ok (.iconst 0, 1) := by decide +kernel
theorem dX5_moved_82 : decode cX5_moved 82 = .ok (.ior, 1) := by decide +kernel
theorem dX5_moved_83 : decode cX5_moved 83 = .ok (.istore_n 2, 1) := by decide +kernel
theorem dX5_moved_84 : decode cX5_moved 84 = .ok (.iinc 3 1, 3) := by decide +kernel
theorem dX5_moved_87 : decode cX5_moved 87 = .ok (.goto (-62), 3) := by decide +kernel
theorem dX5_moved_90 : decode cX5_moved 90 = .ok (.iload_n 2, 1) := by decide +kernel
theorem dX5_moved_91 : decode cX5_moved 91 = .ok (.ireturn, 1) := by decide +kernel
theorem dX5_doneBy_0 : decode cX5_doneBy 0 = .ok (.aload_n 0, 1) := by decide +kernel
theorem dX5_doneBy_1 : decode cX5_doneBy 1 = .ok (.getfield 13, 3) := by decide +kernel
theorem dX5_doneBy_4 : decode cX5_doneBy 4 = .ok (.iconst 3, 1) := by decide +kernel
theorem dX5_doneBy_5 : decode cX5_doneBy 5 = .ok (.iload_n 2, 1) := by decide +kernel
theorem dX5_doneBy_6 : decode cX5_doneBy 6 = .ok (.iadd, 1) := by decide +kernel
theorem dX5_doneBy_7 : decode cX5_doneBy 7 = .ok (.iaload, 1) := by decide +kernel
theorem dX5_doneBy_8 : decode cX5_doneBy 8 = .ok (.bipush 9, 2) := by decide +kernel
theorem dX5_doneBy_10 : decode cX5_doneBy 10 = .ok (.imul, 1) := by decide +kernel
theorem dX5_doneBy_11 : decode cX5_doneBy 11 = .ok (.bipush 10, 2) := by decide +kernel
theorem dX5_doneBy_13 : decode cX5_doneBy 13 = .ok (.idiv, 1) := by decide +kernel
theorem dX5_doneBy_14 : decode cX5_doneBy 14 = .ok (.istore 5, 2) := by decide +kernel
theorem dX5_doneBy_16 : decode cX5_doneBy 16 = .ok (.iload_n 3, 1) := by decide +kernel
theorem dX5_doneBy_17 : decode cX5_doneBy 17 = .ok (.aload_n 0, 1) := by decide +kernel
theorem dX5_doneBy_18 : decode cX5_doneBy 18 = .ok (.getfield 13, 3) := by decide +kernel
theorem dX5_doneBy_21 : decode cX5_doneBy 21 = .ok (.bipush 31, 2) := by decide +kernel
theorem dX5_doneBy_23 : decode cX5_doneBy 23 = .ok (.iload_n 1, 1) := by decide +kernel
theorem dX5_doneBy_24 : decode cX5_doneBy 24 = .ok (.iadd, 1) := by decide +kernel
theorem dX5_doneBy_25 : decode cX5_doneBy 25 = .ok (.iaload, 1) := by decide +kernel
theorem dX5_doneBy_26 : decode cX5_doneBy 26 = .ok (.if_icmp .le 7, 3) := by decide +kernel
theorem dX5_doneBy_29 : decode cX5_doneBy 29 = .ok (.iload_n 3, 1) := by decide +kernel
theorem dX5_doneBy_30 : decode cX5_doneBy 30 = .ok (.goto 12, 3) := by decide +kernel
theorem dX5_doneBy_33 : decode cX5_doneBy 33 = .ok (.aload_n 0, 1) := by decide +kernel
theorem dX5_doneBy_34 : decode cX5_doneBy 34 = .ok (.getfield 13, 3) := by decide +kernel
theorem dX5_doneBy_37 : decode cX5_doneBy 37 = .ok (.bipush 31, 2) := by decide +kernel
theorem dX5_doneBy_39 : decode cX5_doneBy 39 = .ok (.iload_n 1, 1) := by decide +kernel
theorem dX5_doneBy_40 : decode cX5_doneBy 40 = .ok (.iadd, 1) := by decide +kernel
theorem dX5_doneBy_41 : decode cX5_doneBy 41 = .ok (.iaload, 1) := by decide +kernel
theorem dX5_doneBy_42 : decode cX5_doneBy 42 = .ok (.istore 6, 2) := by decide +kernel
theorem dX5_doneBy_44 : decode cX5_doneBy 44 = .ok (.iload 5, 2) := by decide +kernel
theorem dX5_doneBy_46 : decode cX5_doneBy 46 = .ok (.ifCond .eq 25, 3) := by decide +kernel
theorem dX5_doneBy_49 : decode cX5_doneBy 49 = .ok (.aload_n 0, 1) := by decide +kernel
theorem dX5_doneBy_50 : decode cX5_doneBy 50 = .ok (.iload_n 1, 1) := by decide +kernel
theorem dX5_doneBy_51 : decode cX5_doneBy 51 = .ok (.invokevirtual 114, 3) := by decide +kernel
theorem dX5_doneBy_54 : decode cX5_doneBy 54 = .ok (.ifCond .eq 17, 3) := by decide +kernel
theorem dX5_doneBy_57 : decode cX5_doneBy 57 = .ok (.iload 6, 2) := by decide +kernel
theorem dX5_doneBy_59 : decode cX5_doneBy 59 = .ok (.aload_n 0, 1) := by decide +kernel
theorem dX5_doneBy_60 : decode cX5_doneBy 60 = .ok (.getfield 13, 3) := by decide +kernel
theorem dX5_doneBy_63 : decode cX5_doneBy 63 = .ok (.bipush 37, 2) := by decide +kernel
theorem dX5_doneBy_65 : decode cX5_doneBy 65 = .ok (.iload_n 1, 1) := by decide +kernel
theorem dX5_doneBy_66 : decode cX5_doneBy 66 = .ok (.iadd, 1) := by decide +kernel
theorem dX5_doneBy_67 : decode cX5_doneBy 67 = .ok (.iaload, 1) := by decide +kernel
theorem dX5_doneBy_68 : decode cX5_doneBy 68 = .ok (.if_icmp .le 6, 3) := by decide +kernel
theorem dX5_doneBy_71 : decode cX5_doneBy 71 = .ok (.bipush (-9), 2) := by decide +kernel
theorem dX5_doneBy_73 : decode cX5_doneBy 73 = .ok (.ireturn, 1) := by decide +kernel
theorem dX5_doneBy_74 : decode cX5_doneBy 74 = .ok (.iload 6, 2) := by decide +kernel
theorem dX5_doneBy_76 : decode cX5_doneBy 76 = .ok (.aload_n 0, 1) := by decide +kernel
theorem dX5_doneBy_77 : decode cX5_doneBy 77 = .ok (.getfield 13, 3) := by decide +kernel
theorem dX5_doneBy_80 : decode cX5_doneBy 80 = .ok (.bipush 25, 2) := by decide +kernel
theorem dX5_doneBy_82 : decode cX5_doneBy 82 = .ok (.iload_n 1, 1) := by decide +kernel
theorem dX5_doneBy_83 : decode cX5_doneBy 83 = .ok (.iadd, 1) := by decide +kernel
theorem dX5_doneBy_84 : decode cX5_doneBy 84 = .ok (.iaload, 1) := by decide +kernel
theorem dX5_doneBy_85 : decode cX5_doneBy 85 = .ok (.iload 5, 2) := by decide +kernel
theorem dX5_doneBy_87 : decode cX5_doneBy 87 = .ok (.iadd, 1) := by decide +kernel
theorem dX5_doneBy_88 : decode cX5_doneBy 88 = .ok (.iconst 1, 1) := by decide +kernel
theorem dX5_doneBy_89 : decode cX5_doneBy 89 = .ok (.isub, 1) := by decide +kernel
theorem dX5_doneBy_90 : decode cX5_doneBy 90 = .ok (.iload 5, 2) := by decide +kernel
theorem dX5_doneBy_92 : decode cX5_doneBy 92 = .ok (.idiv, 1) := by decide +kernel
theorem dX5_doneBy_93 : decode cX5_doneBy 93 = .ok (.iadd, 1) := by decide +kernel
theorem dX5_doneBy_94 : decode cX5_doneBy 94 = .ok (.istore 7, 2) := by decide +kernel
theorem dX5_doneBy_96 : decode cX5_doneBy 96 = .ok (.iload 7, 2) := by decide +kernel
theorem dX5_doneBy_98 : decode cX5_doneBy 98 = .ok (.iload 4, 2) := by decide +kernel
theorem dX5_doneBy_100 : decode cX5_doneBy 100 = .ok (.if_icmp .le 8, 3) := by decide +kernel
theorem dX5_doneBy_103 : decode cX5_doneBy 103 = .ok (.bipush (-9), 2) := by decide +kernel
theorem dX5_doneBy_105 : decode cX5_doneBy 105 = .ok (.goto 5, 3) := by decide +kernel
theorem dX5_doneBy_108 : decode cX5_doneBy 108 = .ok (.iload 7, 2) := by decide +kernel
theorem dX5_doneBy_110 : decode cX5_doneBy 110 = .ok (.ireturn, 1) := by decide +kernel
theorem dX5_reckons_0 : decode cX5_reckons 0 = .ok (.iconst 0, 1) := by decide +kernel
theorem dX5_reckons_1 : decode cX5_reckons 1 = .ok (.istore 5, 2) := by decide +kernel
theorem dX5_reckons_3 : decode cX5_reckons 3 = .ok (.iload 5, 2) := by decide +kernel
theorem dX5_reckons_5 : decode cX5_reckons 5 = .ok (.bipush 64, 2) := by decide +kernel
theorem dX5_reckons_7 : decode cX5_reckons 7 = .ok (.if_icmp .ge 28, 3) := by decide +kernel
theorem dX5_reckons_10 : decode cX5_reckons 10 = .ok (.aload_n 0, 1) := by decide +kernel
theorem dX5_reckons_11 : decode cX5_reckons 11 = .ok (.getfield 39, 3) := by decide +kernel
theorem dX5_reckons_14 : decode cX5_reckons 14 = .ok (.iload 5, 2) := by decide +kernel
theorem dX5_reckons_16 : decode cX5_reckons 16 = .ok (.iload 5, 2) := by decide +kernel
theorem dX5_reckons_18 : decode cX5_reckons 18 = .ok (.iload_n 2, 1) := by decide +kernel
theorem dX5_reckons_19 : decode cX5_reckons 19 = .ok (.if_icmp .ne 7, 3) := by decide +kernel
theorem dX5_reckons_22 : decode cX5_reckons 22 = .ok (.iload_n 3, 1) := by decide +kernel
theorem dX5_reckons_23 : decode cX5_reckons 23 = .ok (.goto 5, 3) := by decide +kernel
theorem dX5_reckons_26 : decode cX5_reckons 26 = .ok (.bipush (-9), 2) := by decide +kernel
theorem dX5_reckons_28 : decode cX5_reckons 28 = .ok (.iastore, 1) := by decide +kernel
theorem dX5_reckons_29 : decode cX5_reckons 29 = .ok (.iinc 5 1, 3) := by decide +kernel
theorem dX5_reckons_32 : decode cX5_reckons 32 = .ok (.goto (-29), 3) := by decide +kernel
theorem dX5_reckons_35 : decode cX5_reckons 35 = .ok (.iload_n 2, 1) := by decide +kernel
theorem dX5_reckons_36 : decode cX5_reckons 36 = .ok (.istore 5, 2) := by decide +kernel
theorem dX5_reckons_38 : decode cX5_reckons 38 = .ok (.iload 5, 2) := by decide +kernel
theorem dX5_reckons_40 : decode cX5_reckons 40 = .ok (.iconst 1, 1) := by decide +kernel
theorem dX5_reckons_41 : decode cX5_reckons 41 = .ok (.aload_n 0, 1) := by decide +kernel
theorem dX5_reckons_42 : decode cX5_reckons 42 = .ok (.getfield 13, 3) := by decide +kernel
theorem dX5_reckons_45 : decode cX5_reckons 45 = .ok (.iconst 1, 1) := by decide +kernel
theorem dX5_reckons_46 : decode cX5_reckons 46 = .ok (.iaload, 1) := by decide +kernel
theorem dX5_reckons_47 : decode cX5_reckons 47 = .ok (.ishl, 1) := by decide +kernel
theorem dX5_reckons_48 : decode cX5_reckons 48 = .ok (.if_icmp .ge 140, 3) := by decide +kernel
theorem dX5_reckons_51 : decode cX5_reckons 51 = .ok (.iconst 0, 1) := by decide +kernel
theorem dX5_reckons_52 : decode cX5_reckons 52 = .ok (.istore 6, 2) := by decide +kernel
theorem dX5_reckons_54 : decode cX5_reckons 54 = .ok (.iload 6, 2) := by decide +kernel
theorem dX5_reckons_56 : decode cX5_reckons 56 = .ok (.aload_n 0, 1) := by decide +kernel
theorem dX5_reckons_57 : decode cX5_reckons 57 = .ok (.getfield 13, 3) := by decide +kernel
theorem dX5_reckons_60 : decode cX5_reckons 60 = .ok (.iconst 1, 1) := by decide +kernel
theorem dX5_reckons_61 : decode cX5_reckons 61 = .ok (.iaload, 1) := by decide +kernel
theorem dX5_reckons_62 : decode cX5_reckons 62 = .ok (.if_icmp .ge 120, 3) := by decide +kernel
theorem dX5_reckons_65 : decode cX5_reckons 65 = .ok (.aload_n 0, 1) := by decide +kernel
theorem dX5_reckons_66 : decode cX5_reckons 66 = .ok (.getfield 39, 3) := by decide +kernel
theorem dX5_reckons_69 : decode cX5_reckons 69 = .ok (.iload 5, 2) := by decide +kernel
theorem dX5_reckons_71 : decode cX5_reckons 71 = .ok (.iaload, 1) := by decide +kernel
theorem dX5_reckons_72 : decode cX5_reckons 72 = .ok (.bipush (-9), 2) := by decide +kernel
theorem dX5_reckons_74 : decode cX5_reckons 74 = .ok (.if_icmp .eq 102, 3) := by decide +kernel
theorem dX5_reckons_77 : decode cX5_reckons 77 = .ok (.iload 5, 2) := by decide +kernel
theorem dX5_reckons_79 : decode cX5_reckons 79 = .ok (.iload 6, 2) := by decide +kernel
theorem dX5_reckons_81 : decode cX5_reckons 81 = .ok (.ishr, 1) := by decide +kernel
theorem dX5_reckons_82 : decode cX5_reckons 82 = .ok (.iconst 1, 1) := by decide +kernel
theorem dX5_reckons_83 : decode cX5_reckons 83 = .ok (.iand, 1) := by decide +kernel
theorem dX5_reckons_84 : decode cX5_reckons 84 = .ok (.ifCond .ne 92, 3) := by decide +kernel
theorem dX5_reckons_87 : decode cX5_reckons 87 = .ok (.aload_n 0, 1) := by decide +kernel
theorem dX5_reckons_88 : decode cX5_reckons 88 = .ok (.iload 6, 2) := by decide +kernel
theorem dX5_reckons_90 : decode cX5_reckons 90 = .ok (.iload_n 1, 1) := by decide +kernel
theorem dX5_reckons_91 : decode cX5_reckons 91 = .ok (.aload_n 0, 1) := by decide +kernel
theorem dX5_reckons_92 : decode cX5_reckons 92 = .ok (.getfield 39, 3) := by decide +kernel
theorem dX5_reckons_95 : decode cX5_reckons 95 = .ok (.iload 5, 2) := by decide +kernel
theorem dX5_reckons_97 : decode cX5_reckons 97 = .ok (.iaload, 1) := by decide +kernel
theorem dX5_reckons_98 : decode cX5_reckons 98 = .ok (.iload 4, 2) := by decide +kernel
theorem dX5_reckons_100 : decode cX5_reckons 100 = .ok (.invokevirtual 136, 3) := by decide +kernel
theorem dX5_reckons_103 : decode cX5_reckons 103 = .ok (.istore 7, 2) := by decide +kernel
theorem dX5_reckons_105 : decode cX5_reckons 105 = .ok (.iload 5, 2) := by decide +kernel
theorem dX5_reckons_107 : decode cX5_reckons 107 = .ok (.iconst 1, 1) := by decide +kernel
theorem dX5_reckons_108 : decode cX5_reckons 108 = .ok (.iload 6, 2) := by decide +kernel
theorem dX5_reckons_110 : decode cX5_reckons 110 = .ok (.ishl, 1) := by decide +kernel
theorem dX5_reckons_111 : decode cX5_reckons 111 = .ok (.ior, 1) := by decide +kernel
theorem dX5_reckons_112 : decode cX5_reckons 112 = .ok (.istore 8, 2) := by decide +kernel
theorem dX5_reckons_114 : decode cX5_reckons 114 = .ok (.iload 7, 2) := by decide +kernel
theorem dX5_reckons_116 : decode cX5_reckons 116 = .ok (.bipush (-9), 2) := by decide +kernel
theorem dX5_reckons_118 : decode cX5_reckons 118 = .ok (.if_icmp .eq 31, 3) := by decide +kernel
theorem dX5_reckons_121 : decode cX5_reckons 121 = .ok (.aload_n 0, 1) := by decide +kernel
theorem dX5_reckons_122 : decode cX5_reckons 122 = .ok (.getfield 39, 3) := by decide +kernel
theorem dX5_reckons_125 : decode cX5_reckons 125 = .ok (.iload 8, 2) := by decide +kernel
theorem dX5_reckons_127 : decode cX5_reckons 127 = .ok (.iaload, 1) := by decide +kernel
theorem dX5_reckons_128 : decode cX5_reckons 128 = .ok (.bipush (-9), 2) := by decide +kernel
theorem dX5_reckons_130 : decode cX5_reckons 130 = .ok (.if_icmp .eq 15, 3) := by decide +kernel
theorem dX5_reckons_133 : decode cX5_reckons 133 = .ok (.iload 7, 2) := by decide +kernel
theorem dX5_reckons_135 : decode cX5_reckons 135 = .ok (.aload_n 0, 1) := by decide +kernel
theorem dX5_reckons_136 : decode cX5_reckons 136 = .ok (.getfield 39, 3) := by decide +kernel
theorem dX5_reckons_139 : decode cX5_reckons 139 = .ok (.iload 8, 2) := by decide +kernel
theorem dX5_reckons_141 : decode cX5_reckons 141 = .ok (.iaload, 1) := by decide +kernel
theorem dX5_reckons_142 : decode cX5_reckons 142 = .ok (.if_icmp .ge 7, 3) := by decide +kernel
theorem dX5_reckons_145 : decode cX5_reckons 145 = .ok (.iconst 1, 1) := by decide +kernel
theorem dX5_reckons_146 : decode cX5_reckons 146 = .ok (.goto 4, 3) := by decide +kernel
theorem dX5_reckons_149 : decode cX5_reckons 149 = .ok (.iconst 0, 1) := by decide +kernel
theorem dX5_reckons_150 : decode cX5_reckons 150 = .ok (.istore 9, 2) := by decide +kernel
theorem dX5_reckons_152 : decode cX5_reckons 152 = .ok (.aload_n 0, 1) := by decide +kernel
theorem dX5_reckons_153 : decode cX5_reckons 153 = .ok (.getfield 39, 3) := by decide +kernel
theorem dX5_reckons_156 : decode cX5_reckons 156 = .ok (.iload 8, 2) := by decide +kernel
theorem dX5_reckons_158 : decode cX5_reckons 158 = .ok (.iload 9, 2) := by decide +kernel
theorem dX5_reckons_160 : decode cX5_reckons 160 = .ok (.ifCond .eq 8, 3) := by decide +kernel
theorem dX5_reckons_163 : decode cX5_reckons 163 = .ok (.iload 7, 2) := by decide +kernel
theorem dX5_reckons_165 : decode cX5_reckons 165 = .ok (.goto 10, 3) := by decide +kernel
theorem dX5_reckons_168 : decode cX5_reckons 168 = .ok (.aload_n 0, 1) := by decide +kernel
theorem dX5_reckons_169 : decode cX5_reckons 169 = .ok (.getfield 39, 3) := by decide +kernel
theorem dX5_reckons_172 : decode cX5_reckons 172 = .ok (.iload 8, 2) := by decide +kernel
theorem dX5_reckons_174 : decode cX5_reckons 174 = .ok (.iaload, 1) := by decide +kernel
theorem dX5_reckons_175 : decode cX5_reckons 175 = .ok (.iastore, 1) := by decide +kernel
theorem dX5_reckons_176 : decode cX5_reckons 176 = .ok (.iinc 6 1, 3) := by decide +kernel
theorem dX5_reckons_179 : decode cX5_reckons 179 = .ok (.goto (-125), 3) := by decide +kernel
theorem dX5_reckons_182 : decode cX5_reckons 182 = .ok (.iinc 5 1, 3) := by decide +kernel
theorem dX5_reckons_185 : decode cX5_reckons 185 = .ok (.goto (-147), 3) := by decide +kernel
theorem dX5_reckons_188 : decode cX5_reckons 188 = .ok (.return_, 1) := by decide +kernel
theorem dX5_soonestOf_0 : decode cX5_soonestOf 0 = .ok (.bipush (-9), 2) := by decide +kernel
theorem dX5_soonestOf_2 : decode cX5_soonestOf 2 = .ok (.istore_n 2, 1) := by decide +kernel
theorem dX5_soonestOf_3 : decode cX5_soonestOf 3 = .ok (.iconst 0, 1) := by decide +kernel
theorem dX5_soonestOf_4 : decode cX5_soonestOf 4 = .ok (.istore_n 3, 1) := by decide +kernel
theorem dX5_soonestOf_5 : decode cX5_soonestOf 5 = .ok (.iload_n 3, 1) := by decide +kernel
theorem dX5_soonestOf_6 : decode cX5_soonestOf 6 = .ok (.iconst 1, 1) := by decide +kernel
theorem dX5_soonestOf_7 : decode cX5_soonestOf 7 = .ok (.aload_n 0, 1) := by decide +kernel
theorem dX5_soonestOf_8 : decode cX5_soonestOf 8 = .ok (.getfield 13, 3) := by decide +kernel
theorem dX5_soonestOf_11 : decode cX5_soonestOf 11 = .ok (.iconst 1, 1) := by decide +kernel
theorem dX5_soonestOf_12 : decode cX5_soonestOf 12 = .ok (.iaload, 1) := by decide +kernel
theorem dX5_soonestOf_13 : decode cX5_soonestOf 13 = .ok (.ishl, 1) := by decide +kernel
theorem dX5_soonestOf_14 : decode cX5_soonestOf 14 = .ok (.if_icmp .ge 67, 3) := by decide +kernel
theorem dX5_soonestOf_17 : decode cX5_soonestOf 17 = .ok (.iload_n 3, 1) := by decide +kernel
theorem dX5_soonestOf_18 : decode cX5_soonestOf 18 = .ok (.invokestatic 94, 3) := by decide +kernel
theorem dX5_soonestOf_21 : decode cX5_soonestOf 21 = .ok (.iload_n 1, 1) := by decide +kernel
theorem dX5_soonestOf_22 : decode cX5_soonestOf 22 = .ok (.if_icmp .ne 18, 3) := by decide +kernel
theorem dX5_soonestOf_25 : decode cX5_soonestOf 25 = .ok (.aload_n 0, 1) := by decide +kernel
theorem dX5_soonestOf_26 : decode cX5_soonestOf 26 = .ok (.getfield 39, 3) := by decide +kernel
theorem dX5_soonestOf_29 : decode cX5_soonestOf 29 = .ok (.iload_n 3, 1) := by decide +kernel
theorem dX5_soonestOf_30 : decode cX5_soonestOf 30 = .ok (.iaload, 1) := by decide +kernel
theorem dX5_soonestOf_31 : decode cX5_soonestOf 31 = .ok (.bipush (-9), 2) := by decide +kernel
theorem dX5_soonestOf_33 : decode cX5_soonestOf 33 = .ok (.if_icmp .eq 7, 3) := by decide +kernel
theorem dX5_soonestOf_36 : decode cX5_soonestOf 36 = .ok (.iconst 1, 1) := by decide +kernel
theorem dX5_soonestOf_37 : decode cX5_soonestOf 37 = .ok (.goto 4, 3) := by decide +kernel
theorem dX5_soonestOf_40 : decode cX5_soonestOf 40 = .ok (.iconst 0, 1) := by decide +kernel
theorem dX5_soonestOf_41 : decode cX5_soonestOf 41 = .ok (.istore 4, 2) := by decide +kernel
theorem dX5_soonestOf_43 : decode cX5_soonestOf 43 = .ok (.iload 4, 2) := by decide +kernel
theorem dX5_soonestOf_45 : decode cX5_soonestOf 45 = .ok (.ifCond .eq 28, 3) := by decide +kernel
theorem dX5_soonestOf_48 : decode cX5_soonestOf 48 = .ok (.iload_n 2, 1) := by decide +kernel
theorem dX5_soonestOf_49 : decode cX5_soonestOf 49 = .ok (.bipush (-9), 2) := by decide +kernel
theorem dX5_soonestOf_51 : decode cX5_soonestOf 51 = .ok (.if_icmp .eq 13, 3) := by decide +kernel
theorem dX5_soonestOf_54 : decode cX5_soonestOf 54 = .ok (.aload_n 0, 1) := by decide +kernel
theorem dX5_soonestOf_55 : decode cX5_soonestOf 55 = .ok (.getfield 39, 3) := by decide +kernel
theorem dX5_soonestOf_58 : decode cX5_soonestOf 58 = .ok (.iload_n 3, 1) := by decide +kernel
theorem dX5_soonestOf_59 : decode cX5_soonestOf 59 = .ok (.iaload, 1) := by decide +kernel
theorem dX5_soonestOf_60 : decode cX5_soonestOf 60 = .ok (.iload_n 2, 1) := by decide +kernel
theorem dX5_soonestOf_61 : decode cX5_soonestOf 61 = .ok (.if_icmp .ge 12, 3) := by decide +kernel
theorem dX5_soonestOf_64 : decode cX5_soonestOf 64 = .ok (.aload_n 0, 1) := by decide +kernel
theorem dX5_soonestOf_65 : decode cX5_soonestOf 65 = .ok (.getfield 39, 3) := by decide +kernel
theorem dX5_soonestOf_68 : decode cX5_soonestOf 68 = .ok (.iload_n 3, 1) := by decide +kernel
theorem dX5_soonestOf_69 : decode cX5_soonestOf 69 = .ok (.iaload, 1) := by decide +kernel
theorem dX5_soonestOf_70 : decode cX5_soonestOf 70 = .ok (.goto 4, 3) := by decide +kernel
theorem dX5_soonestOf_73 : decode cX5_soonestOf 73 = .ok (.iload_n 2, 1) := by decide +kernel
theorem dX5_soonestOf_74 : decode cX5_soonestOf 74 = .ok (.istore_n 2, 1) := by decide +kernel
theorem dX5_soonestOf_75 : decode cX5_soonestOf 75 = .ok (.iinc 3 1, 3) := by decide +kernel
theorem dX5_soonestOf_78 : decode cX5_soonestOf 78 = .ok (.goto (-73), 3) := by decide +kernel
theorem dX5_soonestOf_81 : decode cX5_soonestOf 81 = .ok (.iload_n 2, 1) := by decide +kernel
theorem dX5_soonestOf_82 : decode cX5_soonestOf 82 = .ok (.ireturn, 1) := by decide +kernel
theorem dX5_order_0 : decode cX5_order 0 = .ok (.aload_n 0, 1) := by decide +kernel
theorem dX5_order_1 : decode cX5_order 1 = .ok (.iload_n 1, 1) := by decide +kernel
theorem dX5_order_2 : decode cX5_order 2 = .ok (.invokevirtual 97, 3) := by decide +kernel
theorem dX5_order_5 : decode cX5_order 5 = .ok (.ifCond .eq 24, 3) := by decide +kernel
theorem dX5_order_8 : decode cX5_order 8 = .ok (.iload_n 2, 1) := by decide +kernel
theorem dX5_order_9 : decode cX5_order 9 = .ok (.iconst 0, 1) := by decide +kernel
theorem dX5_order_10 : decode cX5_order 10 = .ok (.sipush 999, 3) := by decide +kernel
theorem dX5_order_13 : decode cX5_order 13 = .ok (.invokestatic 49, 3) := by decide +kernel
theorem dX5_order_16 : decode cX5_order 16 = .ok (.ifCond .eq 13, 3) := by decide +kernel
theorem dX5_order_19 : decode cX5_order 19 = .ok (.iload_n 3, 1) := by decide +kernel
theorem dX5_order_20 : decode cX5_order 20 = .ok (.bipush (-2), 2) := by decide +kernel
theorem dX5_order_22 : decode cX5_order 22 = .ok (.iconst 5, 1) := by decide +kernel
theorem dX5_order_23 : decode cX5_order 23 = .ok (.invokestatic 49, 3) := by decide +kernel
theorem dX5_order_26 : decode cX5_order 26 = .ok (.ifCond .ne 5, 3) := by decide +kernel
theorem dX5_order_29 : decode cX5_order 29 = .ok (.iconst (-1), 1) := by decide +kernel
theorem dX5_order_30 : decode cX5_order 30 = .ok (.ireturn, 1) := by decide +kernel
theorem dX5_order_31 : decode cX5_order 31 = .ok (.aload_n 0, 1) := by decide +kernel
theorem dX5_order_32 : decode cX5_order 32 = .ok (.getfield 19, 3) := by decide +kernel
theorem dX5_order_35 : decode cX5_order 35 = .ok (.bipush 13, 2) := by decide +kernel
theorem dX5_order_37 : decode cX5_order 37 = .ok (.iaload, 1) := by decide +kernel
theorem dX5_order_38 : decode cX5_order 38 = .ok (.istore 4, 2) := by decide +kernel
theorem dX5_order_40 : decode cX5_order 40 = .ok (.aload_n 0, 1) := by decide +kernel
theorem dX5_order_41 : decode cX5_order 41 = .ok (.iload_n 1, 1) := by decide +kernel
theorem dX5_order_42 : decode cX5_order 42 = .ok (.iconst 0, 1) := by decide +kernel
theorem dX5_order_43 : decode cX5_order 43 = .ok (.iload 4, 2) := by decide +kernel
theorem dX5_order_45 : decode cX5_order 45 = .ok (.iload_n 2, 1) := by decide +kernel
theorem dX5_order_46 : decode cX5_order 46 = .ok (.invokevirtual 140, 3) := by decide +kernel
theorem dX5_order_49 : decode cX5_order 49 = .ok (.bipush 6, 2) := by decide +kernel
theorem dX5_order_51 : decode cX5_order 51 = .ok (.istore 5, 2) := by decide +kernel
theorem dX5_order_53 : decode cX5_order 53 = .ok (.aload_n 0, 1) := by decide +kernel
theorem dX5_order_54 : decode cX5_order 54 = .ok (.iload 5, 2) := by decide +kernel
theorem dX5_order_56 : decode cX5_order 56 = .ok (.invokevirtual 144, 3) := by decide +kernel
theorem dX5_order_59 : decode cX5_order 59 = .ok (.bipush (-9), 2) := by decide +kernel
theorem dX5_order_61 : decode cX5_order 61 = .ok (.if_icmp .ne 9, 3) := by decide +kernel
theorem dX5_order_64 : decode cX5_order 64 = .ok (.iinc 5 (-1), 3) := by decide +kernel
theorem dX5_order_67 : decode cX5_order 67 = .ok (.goto (-14), 3) := by decide +kernel
theorem dX5_order_70 : decode cX5_order 70 = .ok (.aload_n 0, 1) := by decide +kernel
theorem dX5_order_71 : decode cX5_order 71 = .ok (.iload 5, 2) := by decide +kernel
theorem dX5_order_73 : decode cX5_order 73 = .ok (.invokevirtual 144, 3) := by decide +kernel
theorem dX5_order_76 : decode cX5_order 76 = .ok (.istore 6, 2) := by decide +kernel
theorem dX5_order_78 : decode cX5_order 78 = .ok (.iload_n 3, 1) := by decide +kernel
theorem dX5_order_79 : decode cX5_order 79 = .ok (.ifCond .ge 16, 3) := by decide +kernel
theorem dX5_order_82 : decode cX5_order 82 = .ok (.iload_n 3, 1) := by decide +kernel
theorem dX5_order_83 : decode cX5_order 83 = .ok (.iconst (-1), 1) := by decide +kernel
theorem dX5_order_84 : decode cX5_order 84 = .ok (.if_icmp .ne 8, 3) := by decide +kernel
theorem dX5_order_87 : decode cX5_order 87 = .ok (.iload 5, 2) := by decide +kernel
theorem dX5_order_89 : decode cX5_order 89 = .ok (.goto 5, 3) := by decide +kernel
theorem dX5_order_92 : decode cX5_order 92 = .ok (.iload 6, 2) := by decide +kernel
theorem dX5_order_94 : decode cX5_order 94 = .ok (.ireturn, 1) := by decide +kernel
theorem dX5_order_95 : decode cX5_order 95 = .ok (.iconst 0, 1) := by decide +kernel
theorem dX5_order_96 : decode cX5_order 96 = .ok (.istore 7, 2) := by decide +kernel
theorem dX5_order_98 : decode cX5_order 98 = .ok (.bipush (-9), 2) := by decide +kernel
theorem dX5_order_100 : decode cX5_order 100 = .ok (.istore 8, 2) := by decide +kernel
theorem dX5_order_102 : decode cX5_order 102 = .ok (.iconst 0, 1) := by decide +kernel
theorem dX5_order_103 : decode cX5_order 103 = .ok (.istore 9, 2) := by decide +kernel
theorem dX5_order_105 : decode cX5_order 105 = .ok (.iload 9, 2) := by decide +kernel
theorem dX5_order_107 : decode cX5_order 107 = .ok (.iload_n 3, 1) := by decide +kernel
theorem dX5_order_108 : decode cX5_order 108 = .ok (.if_icmp .gt 134, 3) := by decide +kernel
theorem dX5_order_111 : decode cX5_order 111 = .ok (.iload 9, 2) := by decide +kernel
theorem dX5_order_113 : decode cX5_order 113 = .ok (.iload 5, 2) := by decide +kernel
theorem dX5_order_115 : decode cX5_order 115 = .ok (.if_icmp .ge 127, 3) := by decide +kernel
theorem dX5_order_118 : decode cX5_order 118 = .ok (.bipush (-9), 2) := by decide +kernel
theorem dX5_order_120 : decode cX5_order 120 = .ok (.istore 8, 2) := by decide +kernel
theorem dX5_order_122 : decode cX5_order 122 = .ok (.bipush (-9), 2) := by decide +kernel
theorem dX5_order_124 : decode cX5_order 124 = .ok (.istore 10, 2) := by decide +kernel
theorem dX5_order_126 : decode cX5_order 126 = .ok (.iconst 0, 1) := by decide +kernel
theorem dX5_order_127 : decode cX5_order 127 = .ok (.istore 11, 2) := by decide +kernel
theorem dX5_order_129 : decode cX5_order 129 = .ok (.iload 11, 2) := by decide +kernel
theorem dX5_order_131 : decode cX5_order 131 = .ok (.aload_n 0, 1) := by decide +kernel
theorem dX5_order_132 : decode cX5_order 132 = .ok (.getfield 13, 3) := by decide +kernel
theorem dX5_order_135 : decode cX5_order 135 = .ok (.iconst 1, 1) := by decide +kernel
theorem dX5_order_136 : decode cX5_order 136 = .ok (.iaload, 1) := by decide +kernel
theorem dX5_order_137 : decode cX5_order 137 = .ok (.if_icmp .ge 86, 3) := by decide +kernel
theorem dX5_order_140 : decode cX5_order 140 = .ok (.iload 8, 2) := by decide +kernel
theorem dX5_order_142 : decode cX5_order 142 = .ok (.bipush (-9), 2) := by decide +kernel
theorem dX5_order_144 : decode cX5_order 144 = .ok (.if_icmp .ne 79, 3) := by decide +kernel
theorem dX5_order_147 : decode cX5_order 147 = .ok (.iload 7, 2) := by decide +kernel
theorem dX5_order_149 : decode cX5_order 149 = .ok (.iload 11, 2) := by decide +kernel
theorem dX5_order_151 : decode cX5_order 151 = .ok (.ishr, 1) := by decide +kernel
theorem dX5_order_152 : decode cX5_order 152 = .ok (.iconst 1, 1) := by decide +kernel
theorem dX5_order_153 : decode cX5_order 153 = .ok (.iand, 1) := by decide +kernel
theorem dX5_order_154 : decode cX5_order 154 = .ok (.iconst 1, 1) := by decide +kernel
theorem dX5_order_155 : decode cX5_order 155 = .ok (.if_icmp .ne 8, 3) := by decide +kernel
theorem dX5_order_158 : decode cX5_order 158 = .ok (.bipush (-9), 2) := by decide +kernel
theorem dX5_order_160 : decode cX5_order 160 = .ok (.goto 13, 3) := by decide +kernel
theorem dX5_order_163 : decode cX5_order 163 = .ok (.aload_n 0, 1) := by decide +kernel
theorem dX5_order_164 : decode cX5_order 164 = .ok (.iload 11, 2) := by decide +kernel
theorem dX5_order_166 : decode cX5_order 166 = .ok (.iload_n 1, 1) := by decide +kernel
theorem dX5_order_167 : decode cX5_order 167 = .ok (.iload 4, 2) := by decide +kernel
theorem dX5_order_169 : decode cX5_order 169 = .ok (.iload_n 2, 1) := by decide +kernel
theorem dX5_order_170 : decode cX5_order 170 = .ok (.invokevirtual 136, 3) := by decide +kernel
theorem dX5_order_173 : decode cX5_order 173 = .ok (.istore 10, 2) := by decide +kernel
theorem dX5_order_175 : decode cX5_order 175 = .ok (.iload 10, 2) := by decide +kernel
theorem dX5_order_177 : decode cX5_order 177 = .ok (.bipush (-9), 2) := by decide +kernel
theorem dX5_order_179 : decode cX5_order 179 = .ok (.if_icmp .eq 38, 3) := by decide +kernel
theorem dX5_order_182 : decode cX5_order 182 = .ok (.aload_n 0, 1) := by decide +kernel
theorem dX5_order_183 : decode cX5_order 183 = .ok (.iload_n 1, 1) := by decide +kernel
theorem dX5_order_184 : decode cX5_order 184 = .ok (.iload 7, 2) := by decide +kernel
theorem dX5_order_186 : decode cX5_order 186 = .ok (.iconst 1, 1) := by decide +kernel
theorem dX5_order_187 : decode cX5_order 187 = .ok (.iload 11, 2) := by decide +kernel
theorem dX5_order_189 : decode cX5_order 189 = .ok (.ishl, 1) := by decide +kernel
theorem dX5_order_190 : decode cX5_order 190 = .ok (.ior, 1) := by decide +kernel
theorem dX5_order_191 : decode cX5_order 191 = .ok (.iload 10, 2) := by decide +kernel
theorem dX5_order_193 : decode cX5_order 193 = .ok (.iload_n 2, 1) := by decide +kernel
theorem dX5_order_194 : decode cX5_order 194 = .ok (.invokevirtual 140, 3) := by decide +kernel
theorem dX5_order_197 : decode cX5_order 197 = .ok (.aload_n 0, 1) := by decide +kernel
theorem dX5_order_198 : decode cX5_order 198 = .ok (.iload 5, 2) := by decide +kernel
theorem dX5_order_200 : decode cX5_order 200 = .ok (.invokevirtual 144, 3) := by decide +kernel
theorem dX5_order_203 : decode cX5_order 203 = .ok (.iload 6, 2) := by decide +kernel
theorem dX5_order_205 : decode cX5_order 205 = .ok (.if_icmp .ne 8, 3) := by decide +kernel
theorem dX5_order_208 : decode cX5_order 208 = .ok (.iload 11, 2) := by decide +kernel
theorem dX5_order_210 : decode cX5_order 210 = .ok (.goto 5, 3) := by decide +kernel
theorem dX5_order_213 : decode cX5_order 213 = .ok (.bipush (-9), 2) := by decide +kernel
theorem dX5_order_215 : decode cX5_order 215 = .ok (.istore 8, 2) := by decide +kernel
theorem dX5_order_217 : decode cX5_order 217 = .ok (.iinc 11 1, 3) := by decide +kernel
theorem dX5_order_220 : decode cX5_order 220 = .ok (.goto (-91), 3) := by decide +kernel
theorem dX5_order_223 : decode cX5_order 223 = .ok (.iload 7, 2) := by decide +kernel
theorem dX5_order_225 : decode cX5_order 225 = .ok (.iconst 1, 1) := by decide +kernel
theorem dX5_order_226 : decode cX5_order 226 = .ok (.iload 8, 2) := by decide +kernel
theorem dX5_order_228 : decode cX5_order 228 = .ok (.ishl, 1) := by decide +kernel
theorem dX5_order_229 : decode cX5_order 229 = .ok (.ior, 1) := by decide +kernel
theorem dX5_order_230 : decode cX5_order 230 = .ok (.istore 7, 2) := by decide +kernel
theorem dX5_order_232 : decode cX5_order 232 = .ok (.iload 10, 2) := by decide +kernel
theorem dX5_order_234 : decode cX5_order 234 = .ok (.istore 4, 2) := by decide +kernel
theorem dX5_order_236 : decode cX5_order 236 = .ok (.iinc 9 1, 3) := by decide +kernel
theorem dX5_order_239 : decode cX5_order 239 = .ok (.goto (-134), 3) := by decide +kernel
theorem dX5_order_242 : decode cX5_order 242 = .ok (.iload_n 3, 1) := by decide +kernel
theorem dX5_order_243 : decode cX5_order 243 = .ok (.iload 5, 2) := by decide +kernel
theorem dX5_order_245 : decode cX5_order 245 = .ok (.if_icmp .ge 8, 3) := by decide +kernel
theorem dX5_order_248 : decode cX5_order 248 = .ok (.iload 8, 2) := by decide +kernel
theorem dX5_order_250 : decode cX5_order 250 = .ok (.goto 5, 3) := by decide +kernel
theorem dX5_order_253 : decode cX5_order 253 = .ok (.bipush (-9), 2) := by decide +kernel
theorem dX5_order_255 : decode cX5_order 255 = .ok (.ireturn, 1) := by decide +kernel
theorem dX5_fire_0 : decode cX5_fire 0 = .ok (.aload_n 0, 1) := by decide +kernel
theorem dX5_fire_1 : decode cX5_fire 1 = .ok (.iload_n 1, 1) := by decide +kernel
theorem dX5_fire_2 : decode cX5_fire 2 = .ok (.invokevirtual 111, 3) := by decide +kernel
theorem dX5_fire_5 : decode cX5_fire 5 = .ok (.ifCond .eq 13, 3) := by decide +kernel
theorem dX5_fire_8 : decode cX5_fire 8 = .ok (.iload_n 2, 1) := by decide +kernel
theorem dX5_fire_9 : decode cX5_fire 9 = .ok (.iconst 1, 1) := by decide +kernel
theorem dX5_fire_10 : decode cX5_fire 10 = .ok (.bipush 99, 2) := by decide +kernel
theorem dX5_fire_12 : decode cX5_fire 12 = .ok (.invokestatic 49, 3) := by decide +kernel
theorem dX5_fire_15 : decode cX5_fire 15 = .ok (.ifCond .ne 5, 3) := by decide +kernel
theorem dX5_fire_18 : decode cX5_fire 18 = .ok (.iconst (-1), 1) := by decide +kernel
theorem dX5_fire_19 : decode cX5_fire 19 = .ok (.ireturn, 1) := by decide +kernel
theorem dX5_fire_20 : decode cX5_fire 20 = .ok (.aload_n 0, 1) := by decide +kernel
theorem dX5_fire_21 : decode cX5_fire 21 = .ok (.getfield 13, 3) := by decide +kernel
theorem dX5_fire_24 : decode cX5_fire 24 = .ok (.bipush 25, 2) := by decide +kernel
theorem dX5_fire_26 : decode cX5_fire 26 = .ok (.iload_n 1, 1) := by decide +kernel
theorem dX5_fire_27 : decode cX5_fire 27 = .ok (.iadd, 1) := by decide +kernel
theorem dX5_fire_28 : decode cX5_fire 28 = .ok (.iaload, 1) := by decide +kernel
theorem dX5_fire_29 : decode cX5_fire 29 = .ok (.iload_n 2, 1) := by decide +kernel
theorem dX5_fire_30 : decode cX5_fire 30 = .ok (.iadd, 1) := by decide +kernel
theorem dX5_fire_31 : decode cX5_fire 31 = .ok (.iconst 1, 1) := by decide +kernel
theorem dX5_fire_32 : decode cX5_fire 32 = .ok (.isub, 1) := by decide +kernel
theorem dX5_fire_33 : decode cX5_fire 33 = .ok (.iload_n 2, 1) := by decide +kernel
theorem dX5_fire_34 : decode cX5_fire 34 = .ok (.idiv, 1) := by decide +kernel
theorem dX5_fire_35 : decode cX5_fire 35 = .ok (.istore_n 3, 1) := by decide +kernel
theorem dX5_fire_36 : decode cX5_fire 36 = .ok (.bipush 10, 2) := by decide +kernel
theorem dX5_fire_38 : decode cX5_fire 38 = .ok (.iload_n 3, 1) := by decide +kernel
theorem dX5_fire_39 : decode cX5_fire 39 = .ok (.imul, 1) := by decide +kernel
theorem dX5_fire_40 : decode cX5_fire 40 = .ok (.bipush 8, 2) := by decide +kernel
theorem dX5_fire_42 : decode cX5_fire 42 = .ok (.iadd, 1) := by decide +kernel
theorem dX5_fire_43 : decode cX5_fire 43 = .ok (.bipush 9, 2) := by decide +kernel
theorem dX5_fire_45 : decode cX5_fire 45 = .ok (.idiv, 1) := by decide +kernel
theorem dX5_fire_46 : decode cX5_fire 46 = .ok (.ireturn, 1) := by decide +kernel
theorem dX5_odds_0 : decode cX5_odds 0 = .ok (.aload_n 0, 1) := by decide +kernel
theorem dX5_odds_1 : decode cX5_odds 1 = .ok (.iload_n 1, 1) := by decide +kernel
theorem dX5_odds_2 : decode cX5_odds 2 = .ok (.invokevirtual 111, 3) := by decide +kernel
theorem dX5_odds_5 : decode cX5_odds 5 = .ok (.ifCond .eq 31, 3) := by decide +kernel
theorem dX5_odds_8 : decode cX5_odds 8 = .ok (.aload_n 0, 1) := by decide +kernel
theorem dX5_odds_9 : decode cX5_odds 9 = .ok (.iload_n 2, 1) := by decide +kernel
theorem dX5_odds_10 : decode cX5_odds 10 = .ok (.invokevirtual 97, 3) := by decide +kernel
theorem dX5_odds_13 : decode cX5_odds 13 = .ok (.ifCond .eq 23, 3) := by decide +kernel
theorem dX5_odds_16 : decode cX5_odds 16 = .ok (.iload_n 3, 1) := by decide +kernel
theorem dX5_odds_17 : decode cX5_odds 17 = .ok (.iconst 0, 1) := by decide +kernel
theorem dX5_odds_18 : decode cX5_odds 18 = .ok (.bipush 10, 2) := by decide +kernel
theorem dX5_odds_20 : decode cX5_odds 20 = .ok (.invokestatic 49, 3) := by decide +kernel
theorem dX5_odds_23 : decode cX5_odds 23 = .ok (.ifCond .eq 13, 3) := by decide +kernel
theorem dX5_odds_26 : decode cX5_odds 26 = .ok (.iload 4, 2) := by decide +kernel
theorem dX5_odds_28 : decode cX5_odds 28 = .ok (.iconst 0, 1) := by decide +kernel
theorem dX5_odds_29 : decode cX5_odds 29 = .ok (.iconst 1, 1) := by decide +kernel
theorem dX5_odds_30 : decode cX5_odds 30 = .ok (.invokestatic 49, 3) := by decide +kernel
theorem dX5_odds_33 : decode cX5_odds 33 = .ok (.ifCond .ne 5, 3) := by decide +kernel
theorem dX5_odds_36 : decode cX5_odds 36 = .ok (.iconst (-1), 1) := by decide +kernel
theorem dX5_odds_37 : decode cX5_odds 37 = .ok (.ireturn, 1) := by decide +kernel
theorem dX5_odds_38 : decode cX5_odds 38 = .ok (.aload_n 0, 1) := by decide +kernel
theorem dX5_odds_39 : decode cX5_odds 39 = .ok (.iload_n 1, 1) := by decide +kernel
theorem dX5_odds_40 : decode cX5_odds 40 = .ok (.invokevirtual 114, 3) := by decide +kernel
theorem dX5_odds_43 : decode cX5_odds 43 = .ok (.ifCond .ne 6, 3) := by decide +kernel
theorem dX5_odds_46 : decode cX5_odds 46 = .ok (.bipush (-2), 2) := by decide +kernel
theorem dX5_odds_48 : decode cX5_odds 48 = .ok (.ireturn, 1) := by decide +kernel
theorem dX5_odds_49 : decode cX5_odds 49 = .ok (.iconst 0, 1) := by decide +kernel
theorem dX5_odds_50 : decode cX5_odds 50 = .ok (.istore 5, 2) := by decide +kernel
theorem dX5_odds_52 : decode cX5_odds 52 = .ok (.iconst 1, 1) := by decide +kernel
theorem dX5_odds_53 : decode cX5_odds 53 = .ok (.istore 6, 2) := by decide +kernel
theorem dX5_odds_55 : decode cX5_odds 55 = .ok (.iconst 0, 1) := by decide +kernel
theorem dX5_odds_56 : decode cX5_odds 56 = .ok (.istore 7, 2) := by decide +kernel
theorem dX5_odds_58 : decode cX5_odds 58 = .ok (.iload 7, 2) := by decide +kernel
theorem dX5_odds_60 : decode cX5_odds 60 = .ok (.aload_n 0, 1) := by decide +kernel
theorem dX5_odds_61 : decode cX5_odds 61 = .ok (.getfield 13, 3) := by decide +kernel
theorem dX5_odds_64 : decode cX5_odds 64 = .ok (.iconst 0, 1) := by decide +kernel
theorem dX5_odds_65 : decode cX5_odds 65 = .ok (.iaload, 1) := by decide +kernel
theorem dX5_odds_66 : decode cX5_odds 66 = .ok (.if_icmp .ge 29, 3) := by decide +kernel
theorem dX5_odds_69 : decode cX5_odds 69 = .ok (.iload 6, 2) := by decide +kernel
theorem dX5_odds_71 : decode cX5_odds 71 = .ok (.aload_n 0, 1) := by decide +kernel
theorem dX5_odds_72 : decode cX5_odds 72 = .ok (.iload 7, 2) := by decide +kernel
theorem dX5_odds_74 : decode cX5_odds 74 = .ok (.invokevirtual 104, 3) := by decide +kernel
theorem dX5_odds_77 : decode cX5_odds 77 = .ok (.ifCond .eq 7, 3) := by decide +kernel
theorem dX5_odds_80 : decode cX5_odds 80 = .ok (.iconst 1, 1) := by decide +kernel
theorem dX5_odds_81 : decode cX5_odds 81 = .ok (.goto 5, 3) := by decide +kernel
theorem dX5_odds_84 : decode cX5_odds 84 = .ok (.bipush 10, 2) := by decide +kernel
theorem dX5_odds_86 : decode cX5_odds 86 = .ok (.imul, 1) := by decide +kernel
theorem dX5_odds_87 : decode cX5_odds 87 = .ok (.istore 6, 2) := by decide +kernel
theorem dX5_odds_89 : decode cX5_odds 89 = .ok (.iinc 7 1, 3) := by decide +kernel
theorem dX5_odds_92 : decode cX5_odds 92 = .ok (.goto (-34), 3) := by decide +kernel
theorem dX5_odds_95 : decode cX5_odds 95 = .ok (.iconst 0, 1) := by decide +kernel
theorem dX5_odds_96 : decode cX5_odds 96 = .ok (.istore 7, 2) := by decide +kernel
theorem dX5_odds_98 : decode cX5_odds 98 = .ok (.iload 7, 2) := by decide +kernel
theorem dX5_odds_100 : decode cX5_odds 100 = .ok (.iconst 1, 1) := by decide +kernel
theorem dX5_odds_101 : decode cX5_odds 101 = .ok (.aload_n 0, 1) := by decide +kernel
theorem dX5_odds_102 : decode cX5_odds 102 = .ok (.getfield 13, 3) := by decide +kernel
theorem dX5_odds_105 : decode cX5_odds 105 = .ok (.iconst 0, 1) := by decide +kernel
theorem dX5_odds_106 : decode cX5_odds 106 = .ok (.iaload, 1) := by decide +kernel
theorem dX5_odds_107 : decode cX5_odds 107 = .ok (.ishl, 1) := by decide +kernel
theorem dX5_odds_108 : decode cX5_odds 108 = .ok (.if_icmp .ge 112, 3) := by decide +kernel
theorem dX5_odds_111 : decode cX5_odds 111 = .ok (.iload 7, 2) := by decide +kernel
theorem dX5_odds_113 : decode cX5_odds 113 = .ok (.aload_n 0, 1) := by decide +kernel
theorem dX5_odds_114 : decode cX5_odds 114 = .ok (.getfield 19, 3) := by decide +kernel
theorem dX5_odds_117 : decode cX5_odds 117 = .ok (.bipush 12, 2) := by decide +kernel
theorem dX5_odds_119 : decode cX5_odds 119 = .ok (.iaload, 1) := by decide +kernel
theorem dX5_odds_120 : decode cX5_odds 120 = .ok (.iand, 1) := by decide +kernel
theorem dX5_odds_121 : decode cX5_odds 121 = .ok (.ifCond .ne 93, 3) := by decide +kernel
theorem dX5_odds_124 : decode cX5_odds 124 = .ok (.iconst 1, 1) := by decide +kernel
theorem dX5_odds_125 : decode cX5_odds 125 = .ok (.istore 8, 2) := by decide +kernel
theorem dX5_odds_127 : decode cX5_odds 127 = .ok (.iconst 0, 1) := by decide +kernel
theorem dX5_odds_128 : decode cX5_odds 128 = .ok (.istore 9, 2) := by decide +kernel
theorem dX5_odds_130 : decode cX5_odds 130 = .ok (.iload 9, 2) := by decide +kernel
theorem dX5_odds_132 : decode cX5_odds 132 = .ok (.aload_n 0, 1) := by decide +kernel
theorem dX5_odds_133 : decode cX5_odds 133 = .ok (.getfield 13, 3) := by decide +kernel
theorem dX5_odds_136 : decode cX5_odds 136 = .ok (.iconst 0, 1) := by decide +kernel
theorem dX5_odds_137 : decode cX5_odds 137 = .ok (.iaload, 1) := by decide +kernel
theorem dX5_odds_138 : decode cX5_odds 138 = .ok (.if_icmp .ge 46, 3) := by decide +kernel
theorem dX5_odds_141 : decode cX5_odds 141 = .ok (.iload 8, 2) := by decide +kernel
theorem dX5_odds_143 : decode cX5_odds 143 = .ok (.aload_n 0, 1) := by decide +kernel
theorem dX5_odds_144 : decode cX5_odds 144 = .ok (.iload 9, 2) := by decide +kernel
theorem dX5_odds_146 : decode cX5_odds 146 = .ok (.invokevirtual 104, 3) := by decide +kernel
theorem dX5_odds_149 : decode cX5_odds 149 = .ok (.ifCond .eq 7, 3) := by decide +kernel
theorem dX5_odds_152 : decode cX5_odds 152 = .ok (.iconst 1, 1) := by decide +kernel
theorem dX5_odds_153 : decode cX5_odds 153 = .ok (.goto 22, 3) := by decide +kernel
theorem dX5_odds_156 : decode cX5_odds 156 = .ok (.iload 7, 2) := by decide +kernel
theorem dX5_odds_158 : decode cX5_odds 158 = .ok (.iload 9, 2) := by decide +kernel
theorem dX5_odds_160 : decode cX5_odds 160 = .ok (.ishr, 1) := by decide +kernel
theorem dX5_odds_161 : decode cX5_odds 161 = .ok (.iconst 1, 1) := by decide +kernel
theorem dX5_odds_162 : decode cX5_odds 162 = .ok (.iand, 1) := by decide +kernel
theorem dX5_odds_163 : decode cX5_odds 163 = .ok (.iconst 1, 1) := by decide +kernel
theorem dX5_odds_164 : decode cX5_odds 164 = .ok (.if_icmp .ne 7, 3) := by decide +kernel
theorem dX5_odds_167 : decode cX5_odds 167 = .ok (.iload_n 3, 1) := by decide +kernel
theorem dX5_odds_168 : decode cX5_odds 168 = .ok (.goto 7, 3) := by decide +kernel
theorem dX5_odds_171 : decode cX5_odds 171 = .ok (.bipush 10, 2) := by decide +kernel
theorem dX5_odds_173 : decode cX5_odds 173 = .ok (.iload_n 3, 1) := by decide +kernel
theorem dX5_odds_174 : decode cX5_odds 174 = .ok (.isub, 1) := by decide +kernel
theorem dX5_odds_175 : decode cX5_odds 175 = .ok (.imul, 1) := by decide +kernel
theorem dX5_odds_176 : decode cX5_odds 176 = .ok (.istore 8, 2) := by decide +kernel
theorem dX5_odds_178 : decode cX5_odds 178 = .ok (.iinc 9 1, 3) := by decide +kernel
theorem dX5_odds_181 : decode cX5_odds 181 = .ok (.goto (-51), 3) := by decide +kernel
theorem dX5_odds_184 : decode cX5_odds 184 = .ok (.iload 5, 2) := by decide +kernel
theorem dX5_odds_186 : decode cX5_odds 186 = .ok (.aload_n 0, 1) := by decide +kernel
theorem dX5_odds_187 : decode cX5_odds 187 = .ok (.iload_n 1, 1) := by decide +kernel
theorem dX5_odds_188 : decode cX5_odds 188 = .ok (.aload_n 0, 1) := by decide +kernel
theorem dX5_odds_189 : decode cX5_odds 189 = .ok (.getfield 19, 3) := by decide +kernel
theorem dX5_odds_192 : decode cX5_odds 192 = .ok (.bipush 12, 2) := by decide +kernel
theorem dX5_odds_194 : decode cX5_odds 194 = .ok (.iaload, 1) := by decide +kernel
theorem dX5_odds_195 : decode cX5_odds 195 = .ok (.iload 7, 2) := by decide +kernel
theorem dX5_odds_197 : decode cX5_odds 197 = .ok (.ior, 1) := by decide +kernel
theorem dX5_odds_198 : decode cX5_odds 198 = .ok (.invokevirtual 117, 3) := by decide +kernel
theorem dX5_odds_201 : decode cX5_odds 201 = .ok (.iload_n 2, 1) := by decide +kernel
theorem dX5_odds_202 : decode cX5_odds 202 = .ok (.if_icmp .ne 8, 3) := by decide +kernel
theorem dX5_odds_205 : decode cX5_odds 205 = .ok (.iload 8, 2) := by decide +kernel
theorem dX5_odds_207 : decode cX5_odds 207 = .ok (.goto 4, 3) := by decide +kernel
theorem dX5_odds_210 : decode cX5_odds 210 = .ok (.iconst 0, 1) := by decide +kernel
theorem dX5_odds_211 : decode cX5_odds 211 = .ok (.iadd, 1) := by decide +kernel
theorem dX5_odds_212 : decode cX5_odds 212 = .ok (.istore 5, 2) := by decide +kernel
theorem dX5_odds_214 : decode cX5_odds 214 = .ok (.iinc 7 1, 3) := by decide +kernel
theorem dX5_odds_217 : decode cX5_odds 217 = .ok (.goto (-119), 3) := by decide +kernel
theorem dX5_odds_220 : decode cX5_odds 220 = .ok (.iload 5, 2) := by decide +kernel
theorem dX5_odds_222 : decode cX5_odds 222 = .ok (.istore 7, 2) := by decide +kernel
theorem dX5_odds_224 : decode cX5_odds 224 = .ok (.iload 6, 2) := by decide +kernel
theorem dX5_odds_226 : decode cX5_odds 226 = .ok (.istore 8, 2) := by decide +kernel
theorem dX5_odds_228 : decode cX5_odds 228 = .ok (.iload 8, 2) := by decide +kernel
theorem dX5_odds_230 : decode cX5_odds 230 = .ok (.ifCond .le 21, 3) := by decide +kernel
theorem dX5_odds_233 : decode cX5_odds 233 = .ok (.iload 7, 2) := by decide +kernel
theorem dX5_odds_235 : decode cX5_odds 235 = .ok (.iload 8, 2) := by decide +kernel
theorem dX5_odds_237 : decode cX5_odds 237 = .ok (.irem, 1) := by decide +kernel
theorem dX5_odds_238 : decode cX5_odds 238 = .ok (.istore 9, 2) := by decide +kernel
theorem dX5_odds_240 : decode cX5_odds 240 = .ok (.iload 8, 2) := by decide +kernel
theorem dX5_odds_242 : decode cX5_odds 242 = .ok (.istore 7, 2) := by decide +kernel
theorem dX5_odds_244 : decode cX5_odds 244 = .ok (.iload 9, 2) := by decide +kernel
theorem dX5_odds_246 : decode cX5_odds 246 = .ok (.istore 8, 2) := by decide +kernel
theorem dX5_odds_248 : decode cX5_odds 248 = .ok (.goto (-20), 3) := by decide +kernel
theorem dX5_odds_251 : decode cX5_odds 251 = .ok (.iload 4, 2) := by decide +kernel
theorem dX5_odds_253 : decode cX5_odds 253 = .ok (.ifCond .ne 11, 3) := by decide +kernel
theorem dX5_odds_256 : decode cX5_odds 256 = .ok (.iload 5, 2) := by decide +kernel
theorem dX5_odds_258 : decode cX5_odds 258 = .ok (.iload 7, 2) := by decide +kernel
theorem dX5_odds_260 : decode cX5_odds 260 = .ok (.idiv, 1) := by decide +kernel
theorem dX5_odds_261 : decode cX5_odds 261 = .ok (.goto 8, 3) := by decide +kernel
theorem dX5_odds_264 : decode cX5_odds 264 = .ok (.iload 6, 2) := by decide +kernel
theorem dX5_odds_266 : decode cX5_odds 266 = .ok (.iload 7, 2) := by decide +kernel
theorem dX5_odds_268 : decode cX5_odds 268 = .ok (.idiv, 1) := by decide +kernel
theorem dX5_odds_269 : decode cX5_odds 269 = .ok (.ireturn, 1) := by decide +kernel
theorem dX5_led_0 : decode cX5_led 0 = .ok (.aload_n 0, 1) := by decide +kernel
theorem dX5_led_1 : decode cX5_led 1 = .ok (.iload_n 1, 1) := by decide +kernel
theorem dX5_led_2 : decode cX5_led 2 = .ok (.invokevirtual 111, 3) := by decide +kernel
theorem dX5_led_5 : decode cX5_led 5 = .ok (.ifCond .eq 11, 3) := by decide +kernel
theorem dX5_led_8 : decode cX5_led 8 = .ok (.aload_n 0, 1) := by decide +kernel
theorem dX5_led_9 : decode cX5_led 9 = .ok (.iload_n 2, 1) := by decide +kernel
theorem dX5_led_10 : decode cX5_led 10 = .ok (.invokevirtual 97, 3) := by decide +kernel
theorem dX5_led_13 : decode cX5_led 13 = .ok (.ifCond .ne 5, 3) := by decide +kernel
theorem dX5_led_16 : decode cX5_led 16 = .ok (.iconst (-1), 1) := by decide +kernel
theorem dX5_led_17 : decode cX5_led 17 = .ok (.ireturn, 1) := by decide +kernel
theorem dX5_led_18 : decode cX5_led 18 = .ok (.aload_n 0, 1) := by decide +kernel
theorem dX5_led_19 : decode cX5_led 19 = .ok (.iload_n 1, 1) := by decide +kernel
theorem dX5_led_20 : decode cX5_led 20 = .ok (.invokevirtual 114, 3) := by decide +kernel
theorem dX5_led_23 : decode cX5_led 23 = .ok (.ifCond .ne 6, 3) := by decide +kernel
theorem dX5_led_26 : decode cX5_led 26 = .ok (.bipush (-2), 2) := by decide +kernel
theorem dX5_led_28 : decode cX5_led 28 = .ok (.ireturn, 1) := by decide +kernel
theorem dX5_led_29 : decode cX5_led 29 = .ok (.aload_n 0, 1) := by decide +kernel
theorem dX5_led_30 : decode cX5_led 30 = .ok (.getfield 88, 3) := by decide +kernel
theorem dX5_led_33 : decode cX5_led 33 = .ok (.bipush 6, 2) := by decide +kernel
theorem dX5_led_35 : decode cX5_led 35 = .ok (.if_icmp .ne 6, 3) := by decide +kernel
theorem dX5_led_38 : decode cX5_led 38 = .ok (.bipush (-3), 2) := by decide +kernel
theorem dX5_led_40 : decode cX5_led 40 = .ok (.ireturn, 1) := by decide +kernel
theorem dX5_led_41 : decode cX5_led 41 = .ok (.aload_n 0, 1) := by decide +kernel
theorem dX5_led_42 : decode cX5_led 42 = .ok (.getfield 29, 3) := by decide +kernel
theorem dX5_led_45 : decode cX5_led 45 = .ok (.aload_n 0, 1) := by decide +kernel
theorem dX5_led_46 : decode cX5_led 46 = .ok (.getfield 88, 3) := by decide +kernel
theorem dX5_led_49 : decode cX5_led 49 = .ok (.bipush 10, 2) := by decide +kernel
theorem dX5_led_51 : decode cX5_led 51 = .ok (.iload_n 1, 1) := by decide +kernel
theorem dX5_led_52 : decode cX5_led 52 = .ok (.imul, 1) := by decide +kernel
theorem dX5_led_53 : decode cX5_led 53 = .ok (.iload_n 2, 1) := by decide +kernel
theorem dX5_led_54 : decode cX5_led 54 = .ok (.iadd, 1) := by decide +kernel
theorem dX5_led_55 : decode cX5_led 55 = .ok (.iastore, 1) := by decide +kernel
theorem dX5_led_56 : decode cX5_led 56 = .ok (.aload_n 0, 1) := by decide +kernel
theorem dX5_led_57 : decode cX5_led 57 = .ok (.dup, 1) := by decide +kernel
theorem dX5_led_58 : decode cX5_led 58 = .ok (.getfield 88, 3) := by decide +kernel
theorem dX5_led_61 : decode cX5_led 61 = .ok (.iconst 1, 1) := by decide +kernel
theorem dX5_led_62 : decode cX5_led 62 = .ok (.iadd, 1) := by decide +kernel
theorem dX5_led_63 : decode cX5_led 63 = .ok (.putfield 88, 3) := by decide +kernel
theorem dX5_led_66 : decode cX5_led 66 = .ok (.aload_n 0, 1) := by decide +kernel
theorem dX5_led_67 : decode cX5_led 67 = .ok (.getfield 88, 3) := by decide +kernel
theorem dX5_led_70 : decode cX5_led 70 = .ok (.ireturn, 1) := by decide +kernel
theorem dX5_forget_0 : decode cX5_forget 0 = .ok (.aload_n 0, 1) := by decide +kernel
theorem dX5_forget_1 : decode cX5_forget 1 = .ok (.getfield 88, 3) := by decide +kernel
theorem dX5_forget_4 : decode cX5_forget 4 = .ok (.istore_n 1, 1) := by decide +kernel
theorem dX5_forget_5 : decode cX5_forget 5 = .ok (.aload_n 0, 1) := by decide +kernel
theorem dX5_forget_6 : decode cX5_forget 6 = .ok (.iconst 0, 1) := by decide +kernel
theorem dX5_forget_7 : decode cX5_forget 7 = .ok (.putfield 88, 3) := by decide +kernel
theorem dX5_forget_10 : decode cX5_forget 10 = .ok (.iload_n 1, 1) := by decide +kernel
theorem dX5_forget_11 : decode cX5_forget 11 = .ok (.ireturn, 1) := by decide +kernel
theorem dX5_vanilla_0 : decode cX5_vanilla 0 = .ok (.iconst 0, 1) := by decide +kernel
theorem dX5_vanilla_1 : decode cX5_vanilla 1 = .ok (.istore_n 1, 1) := by decide +kernel
theorem dX5_vanilla_2 : decode cX5_vanilla 2 = .ok (.iconst 0, 1) := by decide +kernel
theorem dX5_vanilla_3 : decode cX5_vanilla 3 = .ok (.istore_n 2, 1) := by decide +kernel
theorem dX5_vanilla_4 : decode cX5_vanilla 4 = .ok (.iload_n 2, 1) := by decide +kernel
theorem dX5_vanilla_5 : decode cX5_vanilla 5 = .ok (.iconst 5, 1) := by decide +kernel
theorem dX5_vanilla_6 : decode cX5_vanilla 6 = .ok (.if_icmp .gt 134, 3) := by decide +kernel
theorem dX5_vanilla_9 : decode cX5_vanilla 9 = .ok (.aload_n 0, 1) := by decide +kernel
theorem dX5_vanilla_10 : decode cX5_vanilla 10 = .ok (.iload_n 2, 1) := by decide +kernel
theorem dX5_vanilla_11 : decode cX5_vanilla 11 = .ok (.iconst 5, 1) := by decide +kernel
theorem dX5_vanilla_12 : decode cX5_vanilla 12 = .ok (.if_icmp .ne 8, 3) := by decide +kernel
theorem dX5_vanilla_15 : decode cX5_vanilla 15 = .ok (.bipush (-9), 2) := by decide +kernel
theorem dX5_vanilla_17 : decode cX5_vanilla 17 = .ok (.goto 4, 3) := by decide +kernel
theorem dX5_vanilla_20 : decode cX5_vanilla 20 = .ok (.iload_n 2, 1) := by decide +kernel
theorem dX5_vanilla_21 : decode cX5_vanilla 21 = .ok (.putfield 32, 3) := by decide +kernel
theorem dX5_vanilla_24 : decode cX5_vanilla 24 = .ok (.iload_n 2, 1) := by decide +kernel
theorem dX5_vanilla_25 : decode cX5_vanilla 25 = .ok (.iconst 5, 1) := by decide +kernel
theorem dX5_vanilla_26 : decode cX5_vanilla 26 = .ok (.if_icmp .eq 13, 3) := by decide +kernel
theorem dX5_vanilla_29 : decode cX5_vanilla 29 = .ok (.iload_n 2, 1) := by decide +kernel
theorem dX5_vanilla_30 : decode cX5_vanilla 30 = .ok (.aload_n 0, 1) := by decide +kernel
theorem dX5_vanilla_31 : decode cX5_vanilla 31 = .ok (.getfield 13, 3) := by decide +kernel
theorem dX5_vanilla_34 : decode cX5_vanilla 34 = .ok (.iconst 0, 1) := by decide +kernel
theorem dX5_vanilla_35 : decode cX5_vanilla 35 = .ok (.iaload, 1) := by decide +kernel
theorem dX5_vanilla_36 : decode cX5_vanilla 36 = .ok (.if_icmp .ge 7, 3) := by decide +kernel
theorem dX5_vanilla_39 : decode cX5_vanilla 39 = .ok (.iconst 1, 1) := by decide +kernel
theorem dX5_vanilla_40 : decode cX5_vanilla 40 = .ok (.goto 4, 3) := by decide +kernel
theorem dX5_vanilla_43 : decode cX5_vanilla 43 = .ok (.iconst 0, 1) := by decide +kernel
theorem dX5_vanilla_44 : decode cX5_vanilla 44 = .ok (.istore_n 3, 1) := by decide +kernel
theorem dX5_vanilla_45 : decode cX5_vanilla 45 = .ok (.iconst 0, 1) := by decide +kernel
theorem dX5_vanilla_46 : decode cX5_vanilla 46 = .ok (.istore 4, 2) := by decide +kernel
theorem dX5_vanilla_48 : decode cX5_vanilla 48 = .ok (.iload 4, 2) := by decide +kernel
theorem dX5_vanilla_50 : decode cX5_vanilla 50 = .ok (.aload_n 0, 1) := by decide +kernel
theorem dX5_vanilla_51 : decode cX5_vanilla 51 = .ok (.getfield 88, 3) := by decide +kernel
theorem dX5_vanilla_54 : decode cX5_vanilla 54 = .ok (.if_icmp .ge 66, 3) := by decide +kernel
theorem dX5_vanilla_57 : decode cX5_vanilla 57 = .ok (.aload_n 0, 1) := by decide +kernel
theorem dX5_vanilla_58 : decode cX5_vanilla 58 = .ok (.getfield 29, 3) := by decide +kernel
theorem dX5_vanilla_61 : decode cX5_vanilla 61 = .ok (.iload 4, 2) := by decide +kernel
theorem dX5_vanilla_63 : decode cX5_vanilla 63 = .ok (.iaload, 1) := by decide +kernel
theorem dX5_vanilla_64 : decode cX5_vanilla 64 = .ok (.bipush 10, 2) := by decide +kernel
theorem dX5_vanilla_66 : decode cX5_vanilla 66 = .ok (.idiv, 1) := by decide +kernel
theorem dX5_vanilla_67 : decode cX5_vanilla 67 = .ok (.istore 5, 2) := by decide +kernel
theorem dX5_vanilla_69 : decode cX5_vanilla 69 = .ok (.iload_n 3, 1) := by decide +kernel
theorem dX5_vanilla_70 : decode cX5_vanilla 70 = .ok (.ifCond .eq 42, 3) := by decide +kernel
theorem dX5_vanilla_73 : decode cX5_vanilla 73 = .ok (.aload_n 0, 1) := by decide +kernel
theorem dX5_vanilla_74 : decode cX5_vanilla 74 = .ok (.iload 5, 2) := by decide +kernel
theorem dX5_vanilla_76 : decode cX5_vanilla 76 = .ok (.invokevirtual 114, 3) := by decide +kernel
theorem dX5_vanilla_79 : decode cX5_vanilla 79 = .ok (.ifCond .eq 33, 3) := by decide +kernel
theorem dX5_vanilla_82 : decode cX5_vanilla 82 = .ok (.aload_n 0, 1) := by decide +kernel
theorem dX5_vanilla_83 : decode cX5_vanilla 83 = .ok (.iload 5, 2) := by decide +kernel
theorem dX5_vanilla_85 : decode cX5_vanilla 85 = .ok (.aload_n 0, 1) := by decide +kernel
theorem dX5_vanilla_86 : decode cX5_vanilla 86 = .ok (.getfield 19, 3) := by decide +kernel
theorem dX5_vanilla_89 : decode cX5_vanilla 89 = .ok (.bipush 12, 2) := by decide +kernel
theorem dX5_vanilla_91 : decode cX5_vanilla 91 = .ok (.iaload, 1) := by decide +kernel
theorem dX5_vanilla_92 : decode cX5_vanilla 92 = .ok (.invokevirtual 117, 3) := by decide +kernel
theorem dX5_vanilla_95 : decode cX5_vanilla 95 = .ok (.aload_n 0, 1) := by decide +kernel
theorem dX5_vanilla_96 : decode cX5_vanilla 96 = .ok (.getfield 29, 3) := by decide +kernel
theorem dX5_vanilla_99 : decode cX5_vanilla 99 = .ok (.iload 4, 2) := by decide +kernel
theorem dX5_vanilla_101 : decode cX5_vanilla 101 = .ok (.iaload, 1) := by decide +kernel
theorem dX5_vanilla_102 : decode cX5_vanilla 102 = .ok (.bipush 10, 2) := by decide +kernel
theorem dX5_vanilla_104 : decode cX5_vanilla 104 = .ok (.irem, 1) := by decide +kernel
theorem dX5_vanilla_105 : decode cX5_vanilla 105 = .ok (.if_icmp .ne 7, 3) := by decide +kernel
theorem dX5_vanilla_108 : decode cX5_vanilla 108 = .ok (.iconst 1, 1) := by decide +kernel
theorem dX5_vanilla_109 : decode cX5_vanilla 109 = .ok (.goto 4, 3) := by decide +kernel
theorem dX5_vanilla_112 : decode cX5_vanilla 112 = .ok (.iconst 0, 1) := by decide +kernel
theorem dX5_vanilla_113 : decode cX5_vanilla 113 = .ok (.istore_n 3, 1) := by decide +kernel
theorem dX5_vanilla_114 : decode cX5_vanilla 114 = .ok (.iinc 4 1, 3) := by decide +kernel
theorem dX5_vanilla_117 : decode cX5_vanilla 117 = .ok (.goto (-69), 3) := by decide +kernel
theorem dX5_vanilla_120 : decode cX5_vanilla 120 = .ok (.iload_n 1, 1) := by decide +kernel
theorem dX5_vanilla_121 : decode cX5_vanilla 121 = .ok (.iload_n 3, 1) := by decide +kernel
theorem dX5_vanilla_122 : decode cX5_vanilla 122 = .ok (.ifCond .eq 9, 3) := by decide +kernel
theorem dX5_vanilla_125 : decode cX5_vanilla 125 = .ok (.iconst 1, 1) := by decide +kernel
theorem dX5_vanilla_126 : decode cX5_vanilla 126 = .ok (.iload_n 2, 1) := by decide +kernel
theorem dX5_vanilla_127 : decode cX5_vanilla 127 = .ok (.ishl, 1) := by decide +kernel
theorem dX5_vanilla_128 : decode cX5_vanilla 128 = .ok (.goto 4, 3) := by decide +kernel
theorem dX5_vanilla_131 : decode cX5_vanilla 131 = .ok (.iconst 0, 1) := by decide +kernel
theorem dX5_vanilla_132 : decode cX5_vanilla 132 = .ok (.ior, 1) := by decide +kernel
theorem dX5_vanilla_133 : decode cX5_vanilla 133 = .ok (.istore_n 1, 1) := by decide +kernel
theorem dX5_vanilla_134 : decode cX5_vanilla 134 = .ok (.iinc 2 1, 3) := by decide +kernel
theorem dX5_vanilla_137 : decode cX5_vanilla 137 = .ok (.goto (-133), 3) := by decide +kernel
theorem dX5_vanilla_140 : decode cX5_vanilla 140 = .ok (.aload_n 0, 1) := by decide +kernel
theorem dX5_vanilla_141 : decode cX5_vanilla 141 = .ok (.bipush (-9), 2) := by decide +kernel
theorem dX5_vanilla_143 : decode cX5_vanilla 143 = .ok (.putfield 32, 3) := by decide +kernel
theorem dX5_vanilla_146 : decode cX5_vanilla 146 = .ok (.iload_n 1, 1) := by decide +kernel
theorem dX5_vanilla_147 : decode cX5_vanilla 147 = .ok (.ireturn, 1) := by decide +kernel
theorem dX5_mark_0 : decode cX5_mark 0 = .ok (.iload_n 1, 1) := by decide +kernel
theorem dX5_mark_1 : decode cX5_mark 1 = .ok (.iconst 0, 1) := by decide +kernel
theorem dX5_mark_2 : decode cX5_mark 2 = .ok (.iconst 5, 1) := by decide +kernel
theorem dX5_mark_3 : decode cX5_mark 3 = .ok (.invokestatic 49, 3) := by decide +kernel
theorem dX5_mark_6 : decode cX5_mark 6 = .ok (.ifCond .eq 11, 3) := by decide +kernel
theorem dX5_mark_9 : decode cX5_mark 9 = .ok (.aload_n 0, 1) := by decide +kernel
theorem dX5_mark_10 : decode cX5_mark 10 = .ok (.iload_n 2, 1) := by decide +kernel
theorem dX5_mark_11 : decode cX5_mark 11 = .ok (.invokevirtual 111, 3) := by decide +kernel
theorem dX5_mark_14 : decode cX5_mark 14 = .ok (.ifCond .ne 6, 3) := by decide +kernel
theorem dX5_mark_17 : decode cX5_mark 17 = .ok (.ldc 100, 2) := by decide +kernel
theorem dX5_mark_19 : decode cX5_mark 19 = .ok (.ireturn, 1) := by decide +kernel
theorem dX5_mark_20 : decode cX5_mark 20 = .ok (.aload_n 0, 1) := by decide +kernel
theorem dX5_mark_21 : decode cX5_mark 21 = .ok (.dup, 1) := by decide +kernel
theorem dX5_mark_22 : decode cX5_mark 22 = .ok (.getfield 147, 3) := by decide +kernel
theorem dX5_mark_25 : decode cX5_mark 25 = .ok (.iload_n 1, 1) := by decide +kernel
theorem dX5_mark_26 : decode cX5_mark 26 = .ok (.ifCond .ne 7, 3) := by decide +kernel
theorem dX5_mark_29 : decode cX5_mark 29 = .ok (.lconst 1, 1) := by decide +kernel
theorem dX5_mark_30 : decode cX5_mark 30 = .ok (.goto 50, 3) := by decide +kernel
theorem dX5_mark_33 : decode cX5_mark 33 = .ok (.iload_n 1, 1) := by decide +kernel
theorem dX5_mark_34 : decode cX5_mark 34 = .ok (.iconst 1, 1) := by decide +kernel
theorem dX5_mark_35 : decode cX5_mark 35 = .ok (.if_icmp .ne 9, 3) := by decide +kernel
theorem dX5_mark_38 : decode cX5_mark 38 = .ok (.ldc2_w 151, 3) := by decide +kernel
theorem dX5_mark_41 : decode cX5_mark 41 = .ok (.goto 39, 3) := by decide +kernel
theorem dX5_mark_44 : decode cX5_mark 44 = .ok (.iload_n 1, 1) := by decide +kernel
theorem dX5_mark_45 : decode cX5_mark 45 = .ok (.iconst 2, 1) := by decide +kernel
theorem dX5_mark_46 : decode cX5_mark 46 = .ok (.if_icmp .ne 9, 3) := by decide +kernel
theorem dX5_mark_49 : decode cX5_mark 49 = .ok (.ldc2_w 153, 3) := by decide +kernel
theorem dX5_mark_52 : decode cX5_mark 52 = .ok (.goto 28, 3) := by decide +kernel
theorem dX5_mark_55 : decode cX5_mark 55 = .ok (.iload_n 1, 1) := by decide +kernel
theorem dX5_mark_56 : decode cX5_mark 56 = .ok (.iconst 3, 1) := by decide +kernel
theorem dX5_mark_57 : decode cX5_mark 57 = .ok (.if_icmp .ne 9, 3) := by decide +kernel
theorem dX5_mark_60 : decode cX5_mark 60 = .ok (.ldc2_w 155, 3) := by decide +kernel
theorem dX5_mark_63 : decode cX5_mark 63 = .ok (.goto 17, 3) := by decide +kernel
theorem dX5_mark_66 : decode cX5_mark 66 = .ok (.iload_n 1, 1) := by decide +kernel
theorem dX5_mark_67 : decode cX5_mark 67 = .ok (.iconst 4, 1) := by decide +kernel
theorem dX5_mark_68 : decode cX5_mark 68 = .ok (.if_icmp .ne 9, 3) := by decide +kernel
theorem dX5_mark_71 : decode cX5_mark 71 = .ok (.ldc2_w 157, 3) := by decide +kernel
theorem dX5_mark_74 : decode cX5_mark 74 = .ok (.goto 6, 3) := by decide +kernel
theorem dX5_mark_77 : decode cX5_mark 77 = .ok (.ldc2_w 159, 3) := by decide +kernel
theorem dX5_mark_80 : decode cX5_mark 80 = .ok (.ladd, 1) := by decide +kernel
theorem dX5_mark_81 : decode cX5_mark 81 = .ok (.putfield 147, 3) := by decide +kernel
theorem dX5_mark_84 : decode cX5_mark 84 = .ok (.aload_n 0, 1) := by decide +kernel
theorem dX5_mark_85 : decode cX5_mark 85 = .ok (.getfield 13, 3) := by decide +kernel
theorem dX5_mark_88 : decode cX5_mark 88 = .ok (.bipush 13, 2) := by decide +kernel
theorem dX5_mark_90 : decode cX5_mark 90 = .ok (.iload_n 2, 1) := by decide +kernel
theorem dX5_mark_91 : decode cX5_mark 91 = .ok (.iadd, 1) := by decide +kernel
theorem dX5_mark_92 : decode cX5_mark 92 = .ok (.iaload, 1) := by decide +kernel
theorem dX5_mark_93 : decode cX5_mark 93 = .ok (.istore_n 3, 1) := by decide +kernel
theorem dX5_mark_94 : decode cX5_mark 94 = .ok (.iload_n 3, 1) := by decide +kernel
theorem dX5_mark_95 : decode cX5_mark 95 = .ok (.aload_n 0, 1) := by decide +kernel
theorem dX5_mark_96 : decode cX5_mark 96 = .ok (.getfield 19, 3) := by decide +kernel
theorem dX5_mark_99 : decode cX5_mark 99 = .ok (.bipush 6, 2) := by decide +kernel
theorem dX5_mark_101 : decode cX5_mark 101 = .ok (.iload_n 2, 1) := by decide +kernel
theorem dX5_mark_102 : decode cX5_mark 102 = .ok (.iadd, 1) := by decide +kernel
theorem dX5_mark_103 : decode cX5_mark 103 = .ok (.iaload, 1) := by decide +kernel
theorem dX5_mark_104 : decode cX5_mark 104 = .ok (.iadd, 1) := by decide +kernel
theorem dX5_mark_105 : decode cX5_mark 105 = .ok (.istore 4, 2) := by decide +kernel
theorem dX5_mark_107 : decode cX5_mark 107 = .ok (.iload_n 3, 1) := by decide +kernel
theorem dX5_mark_108 : decode cX5_mark 108 = .ok (.aload_n 0, 1) := by decide +kernel
theorem dX5_mark_109 : decode cX5_mark 109 = .ok (.getfield 13, 3) := by decide +kernel
theorem dX5_mark_112 : decode cX5_mark 112 = .ok (.bipush 19, 2) := by decide +kernel
theorem dX5_mark_114 : decode cX5_mark 114 = .ok (.iload_n 2, 1) := by decide +kernel
theorem dX5_mark_115 : decode cX5_mark 115 = .ok (.iadd, 1) := by decide +kernel
theorem dX5_mark_116 : decode cX5_mark 116 = .ok (.iaload, 1) := by decide +kernel
theorem dX5_mark_117 : decode cX5_mark 117 = .ok (.isub, 1) := by decide +kernel
theorem dX5_mark_118 : decode cX5_mark 118 = .ok (.istore 5, 2) := by decide +kernel
theorem dX5_mark_120 : decode cX5_mark 120 = .ok (.iload_n 1, 1) := by decide +kernel
theorem dX5_mark_121 : decode cX5_mark 121 = .ok (.ifCond .ne 7, 3) := by decide +kernel
theorem dX5_mark_124 : decode cX5_mark 124 = .ok (.iload_n 3, 1) := by decide +kernel
theorem dX5_mark_125 : decode cX5_mark 125 = .ok (.goto 56, 3) := by decide +kernel
theorem dX5_mark_128 : decode cX5_mark 128 = .ok (.iload_n 1, 1) := by decide +kernel
theorem dX5_mark_129 : decode cX5_mark 129 = .ok (.iconst 1, 1) := by decide +kernel
theorem dX5_mark_130 : decode cX5_mark 130 = .ok (.if_icmp .ne 8, 3) := by decide +kernel
theorem dX5_mark_133 : decode cX5_mark 133 = .ok (.iload 4, 2) := by decide +kernel
theorem dX5_mark_135 : decode cX5_mark 135 = .ok (.goto 46, 3) := by decide +kernel
theorem dX5_mark_138 : decode cX5_mark 138 = .ok (.iload_n 1, 1) := by decide +kernel
theorem dX5_mark_139 : decode cX5_mark 139 = .ok (.iconst 2, 1) := by decide +kernel
theorem dX5_mark_140 : decode cX5_mark 140 = .ok (.if_icmp .ne 8, 3) := by decide +kernel
theorem dX5_mark_143 : decode cX5_mark 143 = .ok (.iload 5, 2) := by decide +kernel
theorem dX5_mark_145 : decode cX5_mark 145 = .ok (.goto 36, 3) := by decide +kernel
theorem dX5_mark_148 : decode cX5_mark 148 = .ok (.iload_n 1, 1) := by decide +kernel
theorem dX5_mark_149 : decode cX5_mark 149 = .ok (.iconst 3, 1) := by decide +kernel
theorem dX5_mark_150 : decode cX5_mark 150 = .ok (.if_icmp .ne 10, 3) := by decide +kernel
theorem dX5_mark_153 : decode cX5_mark 153 = .ok (.iconst 2, 1) := by decide +kernel
theorem dX5_mark_154 : decode cX5_mark 154 = .ok (.iload 4, 2) := by decide +kernel
theorem dX5_mark_156 : decode cX5_mark 156 = .ok (.imul, 1) := by decide +kernel
theorem dX5_mark_157 : decode cX5_mark 157 = .ok (.goto 24, 3) := by decide +kernel
theorem dX5_mark_160 : decode cX5_mark 160 = .ok (.iload_n 1, 1) := by decide +kernel
theorem dX5_mark_161 : decode cX5_mark 161 = .ok (.iconst 4, 1) := by decide +kernel
theorem dX5_mark_162 : decode cX5_mark 162 = .ok (.if_icmp .ne 10, 3) := by decide +kernel
theorem dX5_mark_165 : decode cX5_mark 165 = .ok (.iload 5, 2) := by decide +kernel
theorem dX5_mark_167 : decode cX5_mark 167 = .ok (.iload_n 2, 1) := by decide +kernel
theorem dX5_mark_168 : decode cX5_mark 168 = .ok (.iadd, 1) := by decide +kernel
theorem dX5_mark_169 : decode cX5_mark 169 = .ok (.goto 12, 3) := by decide +kernel
theorem dX5_mark_172 : decode cX5_mark 172 = .ok (.iload_n 3, 1) := by decide +kernel
theorem dX5_mark_173 : decode cX5_mark 173 = .ok (.aload_n 0, 1) := by decide +kernel
theorem dX5_mark_174 : decode cX5_mark 174 = .ok (.getfield 19, 3) := by decide +kernel
theorem dX5_mark_177 : decode cX5_mark 177 = .ok (.bipush 13, 2) := by decide +kernel
theorem dX5_mark_179 : decode cX5_mark 179 = .ok (.iaload, 1) := by decide +kernel
theorem dX5_mark_180 : decode cX5_mark 180 = .ok (.iadd, 1) := by decide +kernel
theorem dX5_mark_181 : decode cX5_mark 181 = .ok (.ireturn, 1) := by decide +kernel
theorem dX5_keep_0 : decode cX5_keep 0 = .ok (.iload_n 1, 1) := by decide +kernel
theorem dX5_keep_1 : decode cX5_keep 1 = .ok (.iconst 0, 1) := by decide +kernel
theorem dX5_keep_2 : decode cX5_keep 2 = .ok (.iconst 1, 1) := by decide +kernel
theorem dX5_keep_3 : decode cX5_keep 3 = .ok (.invokestatic 49, 3) := by decide +kernel
theorem dX5_keep_6 : decode cX5_keep 6 = .ok (.ifCond .ne 5, 3) := by decide +kernel
theorem dX5_keep_9 : decode cX5_keep 9 = .ok (.iconst (-1), 1) := by decide +kernel
theorem dX5_keep_10 : decode cX5_keep 10 = .ok (.ireturn, 1) := by decide +kernel
theorem dX5_keep_11 : decode cX5_keep 11 = .ok (.iconst 0, 1) := by decide +kernel
theorem dX5_keep_12 : decode cX5_keep 12 = .ok (.istore_n 2, 1) := by decide +kernel
theorem dX5_keep_13 : decode cX5_keep 13 = .ok (.iload_n 2, 1) := by decide +kernel
theorem dX5_keep_14 : decode cX5_keep 14 = .ok (.sipush 155, 3) := by decide +kernel
theorem dX5_keep_17 : decode cX5_keep 17 = .ok (.if_icmp .ge 27, 3) := by decide +kernel
theorem dX5_keep_20 : decode cX5_keep 20 = .ok (.aload_n 0, 1) := by decide +kernel
theorem dX5_keep_21 : decode cX5_keep 21 = .ok (.getfield 22, 3) := by decide +kernel
theorem dX5_keep_24 : decode cX5_keep 24 = .ok (.sipush 155, 3) := by decide +kernel
theorem dX5_keep_27 : decode cX5_keep 27 = .ok (.iload_n 1, 1) := by decide +kernel
theorem dX5_keep_28 : decode cX5_keep 28 = .ok (.imul, 1) := by decide +kernel
theorem dX5_keep_29 : decode cX5_keep 29 = .ok (.iload_n 2, 1) := by decide +kernel
theorem dX5_keep_30 : decode cX5_keep 30 = .ok (.iadd, 1) := by decide +kernel
theorem dX5_keep_31 : decode cX5_keep 31 = .ok (.aload_n 0, 1) := by decide +kernel
theorem dX5_keep_32 : decode cX5_keep 32 = .ok (.getfield 19, 3) := by decide +kernel
theorem dX5_keep_35 : decode cX5_keep 35 = .ok (.iload_n 2, 1) := by decide +kernel
theorem dX5_keep_36 : decode cX5_keep 36 = .ok (.iaload, 1) := by decide +kernel
theorem dX5_keep_37 : decode cX5_keep 37 = .ok (.iastore, 1) := by decide +kernel
theorem dX5_keep_38 : decode cX5_keep 38 = .ok (.iinc 2 1, 3) := by decide +kernel
theorem dX5_keep_41 : decode cX5_keep 41 = .ok (.goto (-28), 3) := by decide +kernel
theorem dX5_keep_44 : decode cX5_keep 44 = .ok (.aload_n 0, 1) := by decide +kernel
theorem dX5_keep_45 : decode cX5_keep 45 = .ok (.getfield 25, 3) := by decide +kernel
theorem dX5_keep_48 : decode cX5_keep 48 = .ok (.iload_n 1, 1) := by decide +kernel
theorem dX5_keep_49 : decode cX5_keep 49 = .ok (.iconst 1, 1) := by decide +kernel
theorem dX5_keep_50 : decode cX5_keep 50 = .ok (.bastore, 1) := by decide +kernel
theorem dX5_keep_51 : decode cX5_keep 51 = .ok (.aload_n 0, 1) := by decide +kernel
theorem dX5_keep_52 : decode cX5_keep 52 = .ok (.getfield 19, 3) := by decide +kernel
theorem dX5_keep_55 : decode cX5_keep 55 = .ok (.bipush 13, 2) := by decide +kernel
theorem dX5_keep_57 : decode cX5_keep 57 = .ok (.iaload, 1) := by decide +kernel
theorem dX5_keep_58 : decode cX5_keep 58 = .ok (.ireturn, 1) := by decide +kernel
theorem dX5_back_0 : decode cX5_back 0 = .ok (.iload_n 1, 1) := by decide +kernel
theorem dX5_back_1 : decode cX5_back 1 = .ok (.iconst 0, 1) := by decide +kernel
theorem dX5_back_2 : decode cX5_back 2 = .ok (.iconst 1, 1) := by decide +kernel
theorem dX5_back_3 : decode cX5_back 3 = .ok (.invokestatic 49, 3) := by decide +kernel
theorem dX5_back_6 : decode cX5_back 6 = .ok (.ifCond .ne 5, 3) := by decide +kernel
theorem dX5_back_9 : decode cX5_back 9 = .ok (.iconst (-1), 1) := by decide +kernel
theorem dX5_back_10 : decode cX5_back 10 = .ok (.ireturn, 1) := by decide +kernel
theorem dX5_back_11 : decode cX5_back 11 = .ok (.aload_n 0, 1) := by decide +kernel
theorem dX5_back_12 : decode cX5_back 12 = .ok (.getfield 25, 3) := by decide +kernel
theorem dX5_back_15 : decode cX5_back 15 = .ok (.iload_n 1, 1) := by decide +kernel
theorem dX5_back_16 : decode cX5_back 16 = .ok (.baload, 1) := by decide +kernel
theorem dX5_back_17 : decode cX5_back 17 = .ok (.ifCond .ne 6, 3) := by decide +kernel
theorem dX5_back_20 : decode cX5_back 20 = .ok (.bipush (-2), 2) := by decide +kernel
theorem dX5_back_22 : decode cX5_back 22 = .ok (.ireturn, 1) := by decide +kernel
theorem dX5_back_23 : decode cX5_back 23 = .ok (.iconst 0, 1) := by decide +kernel
theorem dX5_back_24 : decode cX5_back 24 = .ok (.istore_n 2, 1) := by decide +kernel
theorem dX5_back_25 : decode cX5_back 25 = .ok (.iload_n 2, 1) := by decide +kernel
theorem dX5_back_26 : decode cX5_back 26 = .ok (.sipush 155, 3) := by decide +kernel
theorem dX5_back_29 : decode cX5_back 29 = .ok (.if_icmp .ge 27, 3) := by decide +kernel
theorem dX5_back_32 : decode cX5_back 32 = .ok (.aload_n 0, 1) := by decide +kernel
theorem dX5_back_33 : decode cX5_back 33 = .ok (.getfield 19, 3) := by decide +kernel
theorem dX5_back_36 : decode cX5_back 36 = .ok (.iload_n 2, 1) := by decide +kernel
theorem dX5_back_37 : decode cX5_back 37 = .ok (.aload_n 0, 1) := by decide +kernel
theorem dX5_back_38 : decode cX5_back 38 = .ok (.getfield 22, 3) := by decide +kernel
theorem dX5_back_41 : decode cX5_back 41 = .ok (.sipush 155, 3) := by decide +kernel
theorem dX5_back_44 : decode cX5_back 44 = .ok (.iload_n 1, 1) := by decide +kernel
theorem dX5_back_45 : decode cX5_back 45 = .ok (.imul, 1) := by decide +kernel
theorem dX5_back_46 : decode cX5_back 46 = .ok (.iload_n 2, 1) := by decide +kernel
theorem dX5_back_47 : decode cX5_back 47 = .ok (.iadd, 1) := by decide +kernel
theorem dX5_back_48 : decode cX5_back 48 = .ok (.iaload, 1) := by decide +kernel
theorem dX5_back_49 : decode cX5_back 49 = .ok (.iastore, 1) := by decide +kernel
theorem dX5_back_50 : decode cX5_back 50 = .ok (.iinc 2 1, 3) := by decide +kernel
theorem dX5_back_53 : decode cX5_back 53 = .ok (.goto (-28), 3) := by decide +kernel
theorem dX5_back_56 : decode cX5_back 56 = .ok (.aload_n 0, 1) := by decide +kernel
theorem dX5_back_57 : decode cX5_back 57 = .ok (.getfield 19, 3) := by decide +kernel
theorem dX5_back_60 : decode cX5_back 60 = .ok (.bipush 13, 2) := by decide +kernel
theorem dX5_back_62 : decode cX5_back 62 = .ok (.iaload, 1) := by decide +kernel
theorem dX5_back_63 : decode cX5_back 63 = .ok (.ireturn, 1) := by decide +kernel
theorem dX5_count_0 : decode cX5_count 0 = .ok (.iload_n 1, 1) := by decide +kernel
theorem dX5_count_1 : decode cX5_count 1 = .ok (.tableswitch 67 0 4 #[35, 42, 49, 54, 62], 35) := by decide +kernel
theorem dX5_count_36 : decode cX5_count 36 = .ok (.aload_n 0, 1) := by decide +kernel
theorem dX5_count_37 : decode cX5_count 37 = .ok (.getfield 13, 3) := by decide +kernel
theorem dX5_count_40 : decode cX5_count 40 = .ok (.iconst 0, 1) := by decide +kernel
theorem dX5_count_41 : decode cX5_count 41 = .ok (.iaload, 1) := by decide +kernel
theorem dX5_count_42 : decode cX5_count 42 = .ok (.ireturn, 1) := by decide +kernel
theorem dX5_count_43 : decode cX5_count 43 = .ok (.aload_n 0, 1) := by decide +kernel
theorem dX5_count_44 : decode cX5_count 44 = .ok (.getfield 13, 3) := by decide +kernel
theorem dX5_count_47 : decode cX5_count 47 = .ok (.iconst 1, 1) := by decide +kernel
theorem dX5_count_48 : decode cX5_count 48 = .ok (.iaload, 1) := by decide +kernel
theorem dX5_count_49 : decode cX5_count 49 = .ok (.ireturn, 1) := by decide +kernel
theorem dX5_count_50 : decode cX5_count 50 = .ok (.aload_n 0, 1) := by decide +kernel
theorem dX5_count_51 : decode cX5_count 51 = .ok (.getfield 88, 3) := by decide +kernel
theorem dX5_count_54 : decode cX5_count 54 = .ok (.ireturn, 1) := by decide +kernel
theorem dX5_count_55 : decode cX5_count 55 = .ok (.aload_n 0, 1) := by decide +kernel
theorem dX5_count_56 : decode cX5_count 56 = .ok (.getfield 19, 3) := by decide +kernel
theorem dX5_count_59 : decode cX5_count 59 = .ok (.bipush 14, 2) := by decide +kernel
theorem dX5_count_61 : decode cX5_count 61 = .ok (.iaload, 1) := by decide +kernel
theorem dX5_count_62 : decode cX5_count 62 = .ok (.ireturn, 1) := by decide +kernel
theorem dX5_count_63 : decode cX5_count 63 = .ok (.aload_n 0, 1) := by decide +kernel
theorem dX5_count_64 : decode cX5_count 64 = .ok (.getfield 53, 3) := by decide +kernel
theorem dX5_count_67 : decode cX5_count 67 = .ok (.ireturn, 1) := by decide +kernel
theorem dX5_count_68 : decode cX5_count 68 = .ok (.iconst (-1), 1) := by decide +kernel
theorem dX5_count_69 : decode cX5_count 69 = .ok (.ireturn, 1) := by decide +kernel
theorem dX5_trace_0 : decode cX5_trace 0 = .ok (.aload_n 0, 1) := by decide +kernel
theorem dX5_trace_1 : decode cX5_trace 1 = .ok (.getfield 147, 3) := by decide +kernel
theorem dX5_trace_4 : decode cX5_trace 4 = .ok (.lreturn, 1) := by decide +kernel
theorem dJ6_bitCount_0f7a4_0 : decode cJ6_bitCount_0f7a4 0 = .ok (.iload_n 0, 1) := by decide +kernel
theorem dJ6_bitCount_0f7a4_1 : decode cJ6_bitCount_0f7a4 1 = .ok (.iload_n 0, 1) := by decide +kernel
theorem dJ6_bitCount_0f7a4_2 : decode cJ6_bitCount_0f7a4 2 = .ok (.iconst 1, 1) := by decide +kernel
theorem dJ6_bitCount_0f7a4_3 : decode cJ6_bitCount_0f7a4 3 = .ok (.iushr, 1) := by decide +kernel
theorem dJ6_bitCount_0f7a4_4 : decode cJ6_bitCount_0f7a4 4 = .ok (.ldc_w 265, 3) := by decide +kernel
theorem dJ6_bitCount_0f7a4_7 : decode cJ6_bitCount_0f7a4 7 = .ok (.iand, 1) := by decide +kernel
theorem dJ6_bitCount_0f7a4_8 : decode cJ6_bitCount_0f7a4 8 = .ok (.isub, 1) := by decide +kernel
theorem dJ6_bitCount_0f7a4_9 : decode cJ6_bitCount_0f7a4 9 = .ok (.istore_n 0, 1) := by decide +kernel
theorem dJ6_bitCount_0f7a4_10 : decode cJ6_bitCount_0f7a4 10 = .ok (.iload_n 0, 1) := by decide +kernel
theorem dJ6_bitCount_0f7a4_11 : decode cJ6_bitCount_0f7a4 11 = .ok (.ldc_w 266, 3) := by decide +kernel
theorem dJ6_bitCount_0f7a4_14 : decode cJ6_bitCount_0f7a4 14 = .ok (.iand, 1) := by decide +kernel
theorem dJ6_bitCount_0f7a4_15 : decode cJ6_bitCount_0f7a4 15 = .ok (.iload_n 0, 1) := by decide +kernel
theorem dJ6_bitCount_0f7a4_16 : decode cJ6_bitCount_0f7a4 16 = .ok (.iconst 2, 1) := by decide +kernel
theorem dJ6_bitCount_0f7a4_17 : decode cJ6_bitCount_0f7a4 17 = .ok (.iushr, 1) := by decide +kernel
theorem dJ6_bitCount_0f7a4_18 : decode cJ6_bitCount_0f7a4 18 = .ok (.ldc_w 266, 3) := by decide +kernel
theorem dJ6_bitCount_0f7a4_21 : decode cJ6_bitCount_0f7a4 21 = .ok (.iand, 1) := by decide +kernel
theorem dJ6_bitCount_0f7a4_22 : decode cJ6_bitCount_0f7a4 22 = .ok (.iadd, 1) := by decide +kernel
theorem dJ6_bitCount_0f7a4_23 : decode cJ6_bitCount_0f7a4 23 = .ok (.istore_n 0, 1) := by decide +kernel
theorem dJ6_bitCount_0f7a4_24 : decode cJ6_bitCount_0f7a4 24 = .ok (.iload_n 0, 1) := by decide +kernel
theorem dJ6_bitCount_0f7a4_25 : decode cJ6_bitCount_0f7a4 25 = .ok (.iload_n 0, 1) := by decide +kernel
theorem dJ6_bitCount_0f7a4_26 : decode cJ6_bitCount_0f7a4 26 = .ok (.iconst 4, 1) := by decide +kernel
theorem dJ6_bitCount_0f7a4_27 : decode cJ6_bitCount_0f7a4 27 = .ok (.iushr, 1) := by decide +kernel
theorem dJ6_bitCount_0f7a4_28 : decode cJ6_bitCount_0f7a4 28 = .ok (.iadd, 1) := by decide +kernel
theorem dJ6_bitCount_0f7a4_29 : decode cJ6_bitCount_0f7a4 29 = .ok (.ldc_w 267, 3) := by decide +kernel
theorem dJ6_bitCount_0f7a4_32 : decode cJ6_bitCount_0f7a4 32 = .ok (.iand, 1) := by decide +kernel
theorem dJ6_bitCount_0f7a4_33 : decode cJ6_bitCount_0f7a4 33 = .ok (.istore_n 0, 1) := by decide +kernel
theorem dJ6_bitCount_0f7a4_34 : decode cJ6_bitCount_0f7a4 34 = .ok (.iload_n 0, 1) := by decide +kernel
theorem dJ6_bitCount_0f7a4_35 : decode cJ6_bitCount_0f7a4 35 = .ok (.iload_n 0, 1) := by decide +kernel
theorem dJ6_bitCount_0f7a4_36 : decode cJ6_bitCount_0f7a4 36 = .ok (.bipush 8, 2) := by decide +kernel
theorem dJ6_bitCount_0f7a4_38 : decode cJ6_bitCount_0f7a4 38 = .ok (.iushr, 1) := by decide +kernel
theorem dJ6_bitCount_0f7a4_39 : decode cJ6_bitCount_0f7a4 39 = .ok (.iadd, 1) := by decide +kernel
theorem dJ6_bitCount_0f7a4_40 : decode cJ6_bitCount_0f7a4 40 = .ok (.istore_n 0, 1) := by decide +kernel
theorem dJ6_bitCount_0f7a4_41 : decode cJ6_bitCount_0f7a4 41 = .ok (.iload_n 0, 1) := by decide +kernel
theorem dJ6_bitCount_0f7a4_42 : decode cJ6_bitCount_0f7a4 42 = .ok (.iload_n 0, 1) := by decide +kernel
theorem dJ6_bitCount_0f7a4_43 : decode cJ6_bitCount_0f7a4 43 = .ok (.bipush 16, 2) := by decide +kernel
theorem dJ6_bitCount_0f7a4_45 : decode cJ6_bitCount_0f7a4 45 = .ok (.iushr, 1) := by decide +kernel
theorem dJ6_bitCount_0f7a4_46 : decode cJ6_bitCount_0f7a4 46 = .ok (.iadd, 1) := by decide +kernel
theorem dJ6_bitCount_0f7a4_47 : decode cJ6_bitCount_0f7a4 47 = .ok (.istore_n 0, 1) := by decide +kernel
theorem dJ6_bitCount_0f7a4_48 : decode cJ6_bitCount_0f7a4 48 = .ok (.iload_n 0, 1) := by decide +kernel
theorem dJ6_bitCount_0f7a4_49 : decode cJ6_bitCount_0f7a4 49 = .ok (.bipush 63, 2) := by decide +kernel
theorem dJ6_bitCount_0f7a4_51 : decode cJ6_bitCount_0f7a4 51 = .ok (.iand, 1) := by decide +kernel
theorem dJ6_bitCount_0f7a4_52 : decode cJ6_bitCount_0f7a4 52 = .ok (.ireturn, 1) := by decide +kernel
theorem dJ9_max_7cf53_0 : decode cJ9_max_7cf53 0 = .ok (.iload_n 0, 1) := by decide +kernel
theorem dJ9_max_7cf53_1 : decode cJ9_max_7cf53 1 = .ok (.iload_n 1, 1) := by decide +kernel
theorem dJ9_max_7cf53_2 : decode cJ9_max_7cf53 2 = .ok (.if_icmp .lt 7, 3) := by decide +kernel
theorem dJ9_max_7cf53_5 : decode cJ9_max_7cf53 5 = .ok (.iload_n 0, 1) := by decide +kernel
theorem dJ9_max_7cf53_6 : decode cJ9_max_7cf53 6 = .ok (.goto 4, 3) := by decide +kernel
theorem dJ9_max_7cf53_9 : decode cJ9_max_7cf53 9 = .ok (.iload_n 1, 1) := by decide +kernel
theorem dJ9_max_7cf53_10 : decode cJ9_max_7cf53 10 = .ok (.ireturn, 1) := by decide +kernel
theorem dJ9_min_7cf53_0 : decode cJ9_min_7cf53 0 = .ok (.iload_n 0, 1) := by decide +kernel
theorem dJ9_min_7cf53_1 : decode cJ9_min_7cf53 1 = .ok (.iload_n 1, 1) := by decide +kernel
theorem dJ9_min_7cf53_2 : decode cJ9_min_7cf53 2 = .ok (.if_icmp .gt 7, 3) := by decide +kernel
theorem dJ9_min_7cf53_5 : decode cJ9_min_7cf53 5 = .ok (.iload_n 0, 1) := by decide +kernel
theorem dJ9_min_7cf53_6 : decode cJ9_min_7cf53 6 = .ok (.goto 4, 3) := by decide +kernel
theorem dJ9_min_7cf53_9 : decode cJ9_min_7cf53 9 = .ok (.iload_n 1, 1) := by decide +kernel
theorem dJ9_min_7cf53_10 : decode cJ9_min_7cf53 10 = .ok (.ireturn, 1) := by decide +kernel
theorem dL_law_0 : decode cL_law 0 = .ok (.new 7, 3) := by decide +kernel
theorem dL_law_3 : decode cL_law 3 = .ok (.dup, 1) := by decide +kernel
theorem dL_law_4 : decode cL_law 4 = .ok (.invokespecial 9, 3) := by decide +kernel
theorem dL_law_7 : decode cL_law 7 = .ok (.astore_n 1, 1) := by decide +kernel
theorem dL_law_8 : decode cL_law 8 = .ok (.new 10, 3) := by decide +kernel
theorem dL_law_11 : decode cL_law 11 = .ok (.dup, 1) := by decide +kernel
theorem dL_law_12 : decode cL_law 12 = .ok (.invokespecial 12, 3) := by decide +kernel
theorem dL_law_15 : decode cL_law 15 = .ok (.astore_n 2, 1) := by decide +kernel
theorem dL_law_16 : decode cL_law 16 = .ok (.iconst 0, 1) := by decide +kernel
theorem dL_law_17 : decode cL_law 17 = .ok (.istore_n 3, 1) := by decide +kernel
theorem dL_law_18 : decode cL_law 18 = .ok (.iload_n 3, 1) := by decide +kernel
theorem dL_law_19 : decode cL_law 19 = .ok (.aload_n 0, 1) := by decide +kernel
theorem dL_law_20 : decode cL_law 20 = .ok (.arraylength, 1) := by decide +kernel
theorem dL_law_21 : decode cL_law 21 = .ok (.iconst 5, 1) := by decide +kernel
theorem dL_law_22 : decode cL_law 22 = .ok (.isub, 1) := by decide +kernel
theorem dL_law_23 : decode cL_law 23 = .ok (.if_icmp .gt 777, 3) := by decide +kernel
theorem dL_law_26 : decode cL_law 26 = .ok (.aload_n 0, 1) := by decide +kernel
theorem dL_law_27 : decode cL_law 27 = .ok (.iload_n 3, 1) := by decide +kernel
theorem dL_law_28 : decode cL_law 28 = .ok (.iaload, 1) := by decide +kernel
theorem dL_law_29 : decode cL_law 29 = .ok (.bipush 31, 2) := by decide +kernel
theorem dL_law_31 : decode cL_law 31 = .ok (.iand, 1) := by decide +kernel
theorem dL_law_32 : decode cL_law 32 = .ok (.tableswitch 762 0 24 #[116, 139, 152, 165, 198, 231, 264, 287, 320, 343, 376, 389, 412, 435, 458, 501, 534, 587, 620, 633, 646, 679, 702, 725, 748], 116) := by decide +kernel
theorem dL_law_148 : decode cL_law 148 = .ok (.aload_n 1, 1) := by decide +kernel
theorem dL_law_149 : decode cL_law 149 = .ok (.aload_n 0, 1) := by decide +kernel
theorem dL_law_150 : decode cL_law 150 = .ok (.iload_n 3, 1) := by decide +kernel
theorem dL_law_151 : decode cL_law 151 = .ok (.iconst 1, 1) := by decide +kernel
theorem dL_law_152 : decode cL_law 152 = .ok (.iadd, 1) := by decide +kernel
theorem dL_law_153 : decode cL_law 153 = .ok (.iaload, 1) := by decide +kernel
theorem dL_law_154 : decode cL_law 154 = .ok (.invokevirtual 13, 3) := by decide +kernel
theorem dL_law_157 : decode cL_law 157 = .ok (.aload_n 2, 1) := by decide +kernel
theorem dL_law_158 : decode cL_law 158 = .ok (.aload_n 0, 1) := by decide +kernel
theorem dL_law_159 : decode cL_law 159 = .ok (.iload_n 3, 1) := by decide +kernel
theorem dL_law_160 : decode cL_law 160 = .ok (.iconst 1, 1) := by decide +kernel
theorem dL_law_161 : decode cL_law 161 = .ok (.iadd, 1) := by decide +kernel
theorem dL_law_162 : decode cL_law 162 = .ok (.iaload, 1) := by decide +kernel
theorem dL_law_163 : decode cL_law 163 = .ok (.invokevirtual 17, 3) := by decide +kernel
theorem dL_law_166 : decode cL_law 166 = .ok (.if_icmp .eq 628, 3) := by decide +kernel
theorem dL_law_169 : decode cL_law 169 = .ok (.iconst 0, 1) := by decide +kernel
theorem dL_law_170 : decode cL_law 170 = .ok (.ireturn, 1) := by decide +kernel
theorem dL_law_171 : decode cL_law 171 = .ok (.aload_n 1, 1) := by decide +kernel
theorem dL_law_172 : decode cL_law 172 = .ok (.invokevirtual 18, 3) := by decide +kernel
theorem dL_law_175 : decode cL_law 175 = .ok (.aload_n 2, 1) := by decide +kernel
theorem dL_law_176 : decode cL_law 176 = .ok (.invokevirtual 22, 3) := by decide +kernel
theorem dL_law_179 : decode cL_law 179 = .ok (.if_icmp .eq 615, 3) := by decide +kernel
theorem dL_law_182 : decode cL_law 182 = .ok (.iconst 0, 1) := by decide +kernel
theorem dL_law_183 : decode cL_law 183 = .ok (.ireturn, 1) := by decide +kernel
theorem dL_law_184 : decode cL_law 184 = .ok (.aload_n 1, 1) := by decide +kernel
theorem dL_law_185 : decode cL_law 185 = .ok (.invokevirtual 23, 3) := by decide +kernel
theorem dL_law_188 : decode cL_law 188 = .ok (.aload_n 2, 1) := by decide +kernel
theorem dL_law_189 : decode cL_law 189 = .ok (.invokevirtual 26, 3) := by decide +kernel
theorem dL_law_192 : decode cL_law 192 = .ok (.if_icmp .eq 602, 3) := by decide +kernel
theorem dL_law_195 : decode cL_law 195 = .ok (.iconst 0, 1) := by decide +kernel
theorem dL_law_196 : decode cL_law 196 = .ok (.ireturn, 1) := by decide +kernel
theorem dL_law_197 : decode cL_law 197 = .ok (.aload_n 1, 1) := by decide +kernel
theorem dL_law_198 : decode cL_law 198 = .ok (.aload_n 0, 1) := by decide +kernel
theorem dL_law_199 : decode cL_law 199 = .ok (.iload_n 3, 1) := by decide +kernel
theorem dL_law_200 : decode cL_law 200 = .ok (.iconst 1, 1) := by decide +kernel
theorem dL_law_201 : decode cL_law 201 = .ok (.iadd, 1) := by decide +kernel
theorem dL_law_202 : decode cL_law 202 = .ok (.iaload, 1) := by decide +kernel
theorem dL_law_203 : decode cL_law 203 = .ok (.aload_n 0, 1) := by decide +kernel
theorem dL_law_204 : decode cL_law 204 = .ok (.iload_n 3, 1) := by decide +kernel
theorem dL_law_205 : decode cL_law 205 = .ok (.iconst 2, 1) := by decide +kernel
theorem dL_law_206 : decode cL_law 206 = .ok (.iadd, 1) := by decide +kernel
theorem dL_law_207 : decode cL_law 207 = .ok (.iaload, 1) := by decide +kernel
theorem dL_law_208 : decode cL_law 208 = .ok (.invokevirtual 27, 3) := by decide +kernel
theorem dL_law_211 : decode cL_law 211 = .ok (.aload_n 2, 1) := by decide +kernel
theorem dL_law_212 : decode cL_law 212 = .ok (.aload_n 0, 1) := by decide +kernel
theorem dL_law_213 : decode cL_law 213 = .ok (.iload_n 3, 1) := by decide +kernel
theorem dL_law_214 : decode cL_law 214 = .ok (.iconst 1, 1) := by decide +kernel
theorem dL_law_215 : decode cL_law 215 = .ok (.iadd, 1) := by decide +kernel
theorem dL_law_216 : decode cL_law 216 = .ok (.iaload, 1) := by decide +kernel
theorem dL_law_217 : decode cL_law 217 = .ok (.aload_n 0, 1) := by decide +kernel
theorem dL_law_218 : decode cL_law 218 = .ok (.iload_n 3, 1) := by decide +kernel
theorem dL_law_219 : decode cL_law 219 = .ok (.iconst 2, 1) := by decide +kernel
theorem dL_law_220 : decode cL_law 220 = .ok (.iadd, 1) := by decide +kernel
theorem dL_law_221 : decode cL_law 221 = .ok (.iaload, 1) := by decide +kernel
theorem dL_law_222 : decode cL_law 222 = .ok (.invokevirtual 31, 3) := by decide +kernel
theorem dL_law_225 : decode cL_law 225 = .ok (.if_icmp .eq 569, 3) := by decide +kernel
theorem dL_law_228 : decode cL_law 228 = .ok (.iconst 0, 1) := by decide +kernel
theorem dL_law_229 : decode cL_law 229 = .ok (.ireturn, 1) := by decide +kernel
theorem dL_law_230 : decode cL_law 230 = .ok (.aload_n 1, 1) := by decide +kernel
theorem dL_law_231 : decode cL_law 231 = .ok (.aload_n 0, 1) := by decide +kernel
theorem dL_law_232 : decode cL_law 232 = .ok (.iload_n 3, 1) := by decide +kernel
theorem dL_law_233 : decode cL_law 233 = .ok (.iconst 1, 1) := by decide +kernel
theorem dL_law_234 : decode cL_law 234 = .ok (.iadd, 1) := by decide +kernel
theorem dL_law_235 : decode cL_law 235 = .ok (.iaload, 1) := by decide +kernel
theorem dL_law_236 : decode cL_law 236 = .ok (.aload_n 0, 1) := by decide +kernel
theorem dL_law_237 : decode cL_law 237 = .ok (.iload_n 3, 1) := by decide +kernel
theorem dL_law_238 : decode cL_law 238 = .ok (.iconst 2, 1) := by decide +kernel
theorem dL_law_239 : decode cL_law 239 = .ok (.iadd, 1) := by decide +kernel
theorem dL_law_240 : decode cL_law 240 = .ok (.iaload, 1) := by decide +kernel
theorem dL_law_241 : decode cL_law 241 = .ok (.invokevirtual 32, 3) := by decide +kernel
theorem dL_law_244 : decode cL_law 244 = .ok (.aload_n 2, 1) := by decide +kernel
theorem dL_law_245 : decode cL_law 245 = .ok (.aload_n 0, 1) := by decide +kernel
theorem dL_law_246 : decode cL_law 246 = .ok (.iload_n 3, 1) := by decide +kernel
theorem dL_law_247 : decode cL_law 247 = .ok (.iconst 1, 1) := by decide +kernel
theorem dL_law_248 : decode cL_law 248 = .ok (.iadd, 1) := by decide +kernel
theorem dL_law_249 : decode cL_law 249 = .ok (.iaload, 1) := by decide +kernel
theorem dL_law_250 : decode cL_law 250 = .ok (.aload_n 0, 1) := by decide +kernel
theorem dL_law_251 : decode cL_law 251 = .ok (.iload_n 3, 1) := by decide +kernel
theorem dL_law_252 : decode cL_law 252 = .ok (.iconst 2, 1) := by decide +kernel
theorem dL_law_253 : decode cL_law 253 = .ok (.iadd, 1) := by decide +kernel
theorem dL_law_254 : decode cL_law 254 = .ok (.iaload, 1) := by decide +kernel
theorem dL_law_255 : decode cL_law 255 = .ok (.invokevirtual 35, 3) := by decide +kernel
theorem dL_law_258 : decode cL_law 258 = .ok (.if_icmp .eq 536, 3) := by decide +kernel
theorem dL_law_261 : decode cL_law 261 = .ok (.iconst 0, 1) := by decide +kernel
theorem dL_law_262 : decode cL_law 262 = .ok (.ireturn, 1) := by decide +kernel
theorem dL_law_263 : decode cL_law 263 = .ok (.aload_n 1, 1) := by decide +kernel
theorem dL_law_264 : decode cL_law 264 = .ok (.aload_n 0, 1) := by decide +kernel
theorem dL_law_265 : decode cL_law 265 = .ok (.iload_n 3, 1) := by decide +kernel
theorem dL_law_266 : decode cL_law 266 = .ok (.iconst 1, 1) := by decide +kernel
theorem dL_law_267 : decode cL_law 267 = .ok (.iadd, 1) := by decide +kernel
theorem dL_law_268 : decode cL_law 268 = .ok (.iaload, 1) := by decide +kernel
theorem dL_law_269 : decode cL_law 269 = .ok (.aload_n 0, 1) := by decide +kernel
theorem dL_law_270 : decode cL_law 270 = .ok (.iload_n 3, 1) := by decide +kernel
theorem dL_law_271 : decode cL_law 271 = .ok (.iconst 2, 1) := by decide +kernel
theorem dL_law_272 : decode cL_law 272 = .ok (.iadd, 1) := by decide +kernel
theorem dL_law_273 : decode cL_law 273 = .ok (.iaload, 1) := by decide +kernel
theorem dL_law_274 : decode cL_law 274 = .ok (.invokevirtual 36, 3) := by decide +kernel
theorem dL_law_277 : decode cL_law 277 = .ok (.aload_n 2, 1) := by decide +kernel
theorem dL_law_278 : decode cL_law 278 = .ok (.aload_n 0, 1) := by decide +kernel
theorem dL_law_279 : decode cL_law 279 = .ok (.iload_n 3, 1) := by decide +kernel
theorem dL_law_280 : decode cL_law 280 = .ok (.iconst 1, 1) := by decide +kernel
theorem dL_law_281 : decode cL_law 281 = .ok (.iadd, 1) := by decide +kernel
theorem dL_law_282 : decode cL_law 282 = .ok (.iaload, 1) := by decide +kernel
theorem dL_law_283 : decode cL_law 283 = .ok (.aload_n 0, 1) := by decide +kernel
theorem dL_law_284 : decode cL_law 284 = .ok (.iload_n 3, 1) := by decide +kernel
theorem dL_law_285 : decode cL_law 285 = .ok (.iconst 2, 1) := by decide +kernel
theorem dL_law_286 : decode cL_law 286 = .ok (.iadd, 1) := by decide +kernel
theorem dL_law_287 : decode cL_law 287 = .ok (.iaload, 1) := by decide +kernel
theorem dL_law_288 : decode cL_law 288 = .ok (.invokevirtual 39, 3) := by decide +kernel
theorem dL_law_291 : decode cL_law 291 = .ok (.if_icmp .eq 503, 3) := by decide +kernel
theorem dL_law_294 : decode cL_law 294 = .ok (.iconst 0, 1) := by decide +kernel
theorem dL_law_295 : decode cL_law 295 = .ok (.ireturn, 1) := by decide +kernel
theorem dL_law_296 : decode cL_law 296 = .ok (.aload_n 1, 1) := by decide +kernel
theorem dL_law_297 : decode cL_law 297 = .ok (.aload_n 0, 1) := by decide +kernel
theorem dL_law_298 : decode cL_law 298 = .ok (.iload_n 3, 1) := by decide +kernel
theorem dL_law_299 : decode cL_law 299 = .ok (.iconst 1, 1) := by decide +kernel
theorem dL_law_300 : decode cL_law 300 = .ok (.iadd, 1) := by decide +kernel
theorem dL_law_301 : decode cL_law 301 = .ok (.iaload, 1) := by decide +kernel
theorem dL_law_302 : decode cL_law 302 = .ok (.invokevirtual 40, 3) := by decide +kernel
theorem dL_law_305 : decode cL_law 305 = .ok (.aload_n 2, 1) := by decide +kernel
theorem dL_law_306 : decode cL_law 306 = .ok (.aload_n 0, 1) := by decide +kernel
theorem dL_law_307 : decode cL_law 307 = .ok (.iload_n 3, 1) := by decide +kernel
theorem dL_law_308 : decode cL_law 308 = .ok (.iconst 1, 1) := by decide +kernel
theorem dL_law_309 : decode cL_law 309 = .ok (.iadd, 1) := by decide +kernel
theorem dL_law_310 : decode cL_law 310 = .ok (.iaload, 1) := by decide +kernel
theorem dL_law_311 : decode cL_law 311 = .ok (.invokevirtual 43, 3) := by decide +kernel
theorem dL_law_314 : decode cL_law 314 = .ok (.if_icmp .eq 480, 3) := by decide +kernel
theorem dL_law_317 : decode cL_law 317 = .ok (.iconst 0, 1) := by decide +kernel
theorem dL_law_318 : decode cL_law 318 = .ok (.ireturn, 1) := by decide +kernel
theorem dL_law_319 : decode cL_law 319 = .ok (.aload_n 1, 1) := by decide +kernel
theorem dL_law_320 : decode cL_law 320 = .ok (.aload_n 0, 1) := by decide +kernel
theorem dL_law_321 : decode cL_law 321 = .ok (.iload_n 3, 1) := by decide +kernel
theorem dL_law_322 : decode cL_law 322 = .ok (.iconst 1, 1) := by decide +kernel
theorem dL_law_323 : decode cL_law 323 = .ok (.iadd, 1) := by decide +kernel
theorem dL_law_324 : decode cL_law 324 = .ok (.iaload, 1) := by decide +kernel
theorem dL_law_325 : decode cL_law 325 = .ok (.aload_n 0, 1) := by decide +kernel
theorem dL_law_326 : decode cL_law 326 = .ok (.iload_n 3, 1) := by decide +kernel
theorem dL_law_327 : decode cL_law 327 = .ok (.iconst 2, 1) := by decide +kernel
theorem dL_law_328 : decode cL_law 328 = .ok (.iadd, 1) := by decide +kernel
theorem dL_law_329 : decode cL_law 329 = .ok (.iaload, 1) := by decide +kernel
theorem dL_law_330 : decode cL_law 330 = .ok (.invokevirtual 44, 3) := by decide +kernel
theorem dL_law_333 : decode cL_law 333 = .ok (.aload_n 2, 1) := by decide +kernel
theorem dL_law_334 : decode cL_law 334 = .ok (.aload_n 0, 1) := by decide +kernel
theorem dL_law_335 : decode cL_law 335 = .ok (.iload_n 3, 1) := by decide +kernel
theorem dL_law_336 : decode cL_law 336 = .ok (.iconst 1, 1) := by decide +kernel
theorem dL_law_337 : decode cL_law 337 = .ok (.iadd, 1) := by decide +kernel
theorem dL_law_338 : decode cL_law 338 = .ok (.iaload, 1) := by decide +kernel
theorem dL_law_339 : decode cL_law 339 = .ok (.aload_n 0, 1) := by decide +kernel
theorem dL_law_340 : decode cL_law 340 = .ok (.iload_n 3, 1) := by decide +kernel
theorem dL_law_341 : decode cL_law 341 = .ok (.iconst 2, 1) := by decide +kernel
theorem dL_law_342 : decode cL_law 342 = .ok (.iadd, 1) := by decide +kernel
theorem dL_law_343 : decode cL_law 343 = .ok (.iaload, 1) := by decide +kernel
theorem dL_law_344 : decode cL_law 344 = .ok (.invokevirtual 47, 3) := by decide +kernel
theorem dL_law_347 : decode cL_law 347 = .ok (.if_icmp .eq 447, 3) := by decide +kernel
theorem dL_law_350 : decode cL_law 350 = .ok (.iconst 0, 1) := by decide +kernel
theorem dL_law_351 : decode cL_law 351 = .ok (.ireturn, 1) := by decide +kernel
theorem dL_law_352 : decode cL_law 352 = .ok (.aload_n 1, 1) := by decide +kernel
theorem dL_law_353 : decode cL_law 353 = .ok (.aload_n 0, 1) := by decide +kernel
theorem dL_law_354 : decode cL_law 354 = .ok (.iload_n 3, 1) := by decide +kernel
theorem dL_law_355 : decode cL_law 355 = .ok (.iconst 1, 1) := by decide +kernel
theorem dL_law_356 : decode cL_law 356 = .ok (.iadd, 1) := by decide +kernel
theorem dL_law_357 : decode cL_law 357 = .ok (.iaload, 1) := by decide +kernel
theorem dL_law_358 : decode cL_law 358 = .ok (.invokevirtual 48, 3) := by decide +kernel
theorem dL_law_361 : decode cL_law 361 = .ok (.aload_n 2, 1) := by decide +kernel
theorem dL_law_362 : decode cL_law 362 = .ok (.aload_n 0, 1) := by decide +kernel
theorem dL_law_363 : decode cL_law 363 = .ok (.iload_n 3, 1) := by decide +kernel
theorem dL_law_364 : decode cL_law 364 = .ok (.iconst 1, 1) := by decide +kernel
theorem dL_law_365 : decode cL_law 365 = .ok (.iadd, 1) := by decide +kernel
theorem dL_law_366 : decode cL_law 366 = .ok (.iaload, 1) := by decide +kernel
theorem dL_law_367 : decode cL_law 367 = .ok (.invokevirtual 51, 3) := by decide +kernel
theorem dL_law_370 : decode cL_law 370 = .ok (.if_icmp .eq 424, 3) := by decide +kernel
theorem dL_law_373 : decode cL_law 373 = .ok (.iconst 0, 1) := by decide +kernel
theorem dL_law_374 : decode cL_law 374 = .ok (.ireturn, 1) := by decide +kernel
theorem dL_law_375 : decode cL_law 375 = .ok (.aload_n 1, 1) := by decide +kernel
theorem dL_law_376 : decode cL_law 376 = .ok (.aload_n 0, 1) := by decide +kernel
theorem dL_law_377 : decode cL_law 377 = .ok (.iload_n 3, 1) := by decide +kernel
theorem dL_law_378 : decode cL_law 378 = .ok (.iconst 1, 1) := by decide +kernel
theorem dL_law_379 : decode cL_law 379 = .ok (.iadd, 1) := by decide +kernel
theorem dL_law_380 : decode cL_law 380 = .ok (.iaload, 1) := by decide +kernel
theorem dL_law_381 : decode cL_law 381 = .ok (.aload_n 0, 1) := by decide +kernel
theorem dL_law_382 : decode cL_law 382 = .ok (.iload_n 3, 1) := by decide +kernel
theorem dL_law_383 : decode cL_law 383 = .ok (.iconst 2, 1) := by decide +kernel
theorem dL_law_384 : decode cL_law 384 = .ok (.iadd, 1) := by decide +kernel
theorem dL_law_385 : decode cL_law 385 = .ok (.iaload, 1) := by decide +kernel
theorem dL_law_386 : decode cL_law 386 = .ok (.invokevirtual 52, 3) := by decide +kernel
theorem dL_law_389 : decode cL_law 389 = .ok (.aload_n 2, 1) := by decide +kernel
theorem dL_law_390 : decode cL_law 390 = .ok (.aload_n 0, 1) := by decide +kernel
theorem dL_law_391 : decode cL_law 391 = .ok (.iload_n 3, 1) := by decide +kernel
theorem dL_law_392 : decode cL_law 392 = .ok (.iconst 1, 1) := by decide +kernel
theorem dL_law_393 : decode cL_law 393 = .ok (.iadd, 1) := by decide +kernel
theorem dL_law_394 : decode cL_law 394 = .ok (.iaload, 1) := by decide +kernel
theorem dL_law_395 : decode cL_law 395 = .ok (.aload_n 0, 1) := by decide +kernel
theorem dL_law_396 : decode cL_law 396 = .ok (.iload_n 3, 1) := by decide +kernel
theorem dL_law_397 : decode cL_law 397 = .ok (.iconst 2, 1) := by decide +kernel
theorem dL_law_398 : decode cL_law 398 = .ok (.iadd, 1) := by decide +kernel
theorem dL_law_399 : decode cL_law 399 = .ok (.iaload, 1) := by decide +kernel
theorem dL_law_400 : decode cL_law 400 = .ok (.invokevirtual 55, 3) := by decide +kernel
theorem dL_law_403 : decode cL_law 403 = .ok (.if_icmp .eq 391, 3) := by decide +kernel
theorem dL_law_406 : decode cL_law 406 = .ok (.iconst 0, 1) := by decide +kernel
theorem dL_law_407 : decode cL_law 407 = .ok (.ireturn, 1) := by decide +kernel
theorem dL_law_408 : decode cL_law 408 = .ok (.aload_n 1, 1) := by decide +kernel
theorem dL_law_409 : decode cL_law 409 = .ok (.invokevirtual 56, 3) := by decide +kernel
theorem dL_law_412 : decode cL_law 412 = .ok (.aload_n 2, 1) := by decide +kernel
theorem dL_law_413 : decode cL_law 413 = .ok (.invokevirtual 59, 3) := by decide +kernel
theorem dL_law_416 : decode cL_law 416 = .ok (.if_icmp .eq 378, 3) := by decide +kernel
theorem dL_law_419 : decode cL_law 419 = .ok (.iconst 0, 1) := by decide +kernel
theorem dL_law_420 : decode cL_law 420 = .ok (.ireturn, 1) := by decide +kernel
theorem dL_law_421 : decode cL_law 421 = .ok (.aload_n 1, 1) := by decide +kernel
theorem dL_law_422 : decode cL_law 422 = .ok (.aload_n 0, 1) := by decide +kernel
theorem dL_law_423 : decode cL_law 423 = .ok (.iload_n 3, 1) := by decide +kernel
theorem dL_law_424 : decode cL_law 424 = .ok (.iconst 1, 1) := by decide +kernel
theorem dL_law_425 : decode cL_law 425 = .ok (.iadd, 1) := by decide +kernel
theorem dL_law_426 : decode cL_law 426 = .ok (.iaload, 1) := by decide +kernel
theorem dL_law_427 : decode cL_law 427 = .ok (.invokevirtual 60, 3) := by decide +kernel
theorem dL_law_430 : decode cL_law 430 = .ok (.aload_n 2, 1) := by decide +kernel
theorem dL_law_431 : decode cL_law 431 = .ok (.aload_n 0, 1) := by decide +kernel
theorem dL_law_432 : decode cL_law 432 = .ok (.iload_n 3, 1) := by decide +kernel
theorem dL_law_433 : decode cL_law 433 = .ok (.iconst 1, 1) := by decide +kernel
theorem dL_law_434 : decode cL_law 434 = .ok (.iadd, 1) := by decide +kernel
theorem dL_law_435 : decode cL_law 435 = .ok (.iaload, 1) := by decide +kernel
theorem dL_law_436 : decode cL_law 436 = .ok (.invokevirtual 63, 3) := by decide +kernel
theorem dL_law_439 : decode cL_law 439 = .ok (.if_icmp .eq 355, 3) := by decide +kernel
theorem dL_law_442 : decode cL_law 442 = .ok (.iconst 0, 1) := by decide +kernel
theorem dL_law_443 : decode cL_law 443 = .ok (.ireturn, 1) := by decide +kernel
theorem dL_law_444 : decode cL_law 444 = .ok (.aload_n 1, 1) := by decide +kernel
theorem dL_law_445 : decode cL_law 445 = .ok (.aload_n 0, 1) := by decide +kernel
theorem dL_law_446 : decode cL_law 446 = .ok (.iload_n 3, 1) := by decide +kernel
theorem dL_law_447 : decode cL_law 447 = .ok (.iconst 1, 1) := by decide +kernel
theorem dL_law_448 : decode cL_law 448 = .ok (.iadd, 1) := by decide +kernel
theorem dL_law_449 : decode cL_law 449 = .ok (.iaload, 1) := by decide +kernel
theorem dL_law_450 : decode cL_law 450 = .ok (.invokevirtual 64, 3) := by decide +kernel
theorem dL_law_453 : decode cL_law 453 = .ok (.aload_n 2, 1) := by decide +kernel
theorem dL_law_454 : decode cL_law 454 = .ok (.aload_n 0, 1) := by decide +kernel
theorem dL_law_455 : decode cL_law 455 = .ok (.iload_n 3, 1) := by decide +kernel
theorem dL_law_456 : decode cL_law 456 = .ok (.iconst 1, 1) := by decide +kernel
theorem dL_law_457 : decode cL_law 457 = .ok (.iadd, 1) := by decide +kernel
theorem dL_law_458 : decode cL_law 458 = .ok (.iaload, 1) := by decide +kernel
theorem dL_law_459 : decode cL_law 459 = .ok (.invokevirtual 67, 3) := by decide +kernel
theorem dL_law_462 : decode cL_law 462 = .ok (.if_icmp .eq 332, 3) := by decide +kernel
theorem dL_law_465 : decode cL_law 465 = .ok (.iconst 0, 1) := by decide +kernel
theorem dL_law_466 : decode cL_law 466 = .ok (.ireturn, 1) := by decide +kernel
theorem dL_law_467 : decode cL_law 467 = .ok (.aload_n 1, 1) := by decide +kernel
theorem dL_law_468 : decode cL_law 468 = .ok (.aload_n 0, 1) := by decide +kernel
theorem dL_law_469 : decode cL_law 469 = .ok (.iload_n 3, 1) := by decide +kernel
theorem dL_law_470 : decode cL_law 470 = .ok (.iconst 1, 1) := by decide +kernel
theorem dL_law_471 : decode cL_law 471 = .ok (.iadd, 1) := by decide +kernel
theorem dL_law_472 : decode cL_law 472 = .ok (.iaload, 1) := by decide +kernel
theorem dL_law_473 : decode cL_law 473 = .ok (.invokevirtual 68, 3) := by decide +kernel
theorem dL_law_476 : decode cL_law 476 = .ok (.aload_n 2, 1) := by decide +kernel
theorem dL_law_477 : decode cL_law 477 = .ok (.aload_n 0, 1) := by decide +kernel
theorem dL_law_478 : decode cL_law 478 = .ok (.iload_n 3, 1) := by decide +kernel
theorem dL_law_479 : decode cL_law 479 = .ok (.iconst 1, 1) := by decide +kernel
theorem dL_law_480 : decode cL_law 480 = .ok (.iadd, 1) := by decide +kernel
theorem dL_law_481 : decode cL_law 481 = .ok (.iaload, 1) := by decide +kernel
theorem dL_law_482 : decode cL_law 482 = .ok (.invokevirtual 71, 3) := by decide +kernel
theorem dL_law_485 : decode cL_law 485 = .ok (.if_icmp .eq 309, 3) := by decide +kernel
theorem dL_law_488 : decode cL_law 488 = .ok (.iconst 0, 1) := by decide +kernel
theorem dL_law_489 : decode cL_law 489 = .ok (.ireturn, 1) := by decide +kernel
theorem dL_law_490 : decode cL_law 490 = .ok (.aload_n 1, 1) := by decide +kernel
theorem dL_law_491 : decode cL_law 491 = .ok (.aload_n 0, 1) := by decide +kernel
theorem dL_law_492 : decode cL_law 492 = .ok (.iload_n 3, 1) := by decide +kernel
theorem dL_law_493 : decode cL_law 493 = .ok (.iconst 1, 1) := by decide +kernel
theorem dL_law_494 : decode cL_law 494 = .ok (.iadd, 1) := by decide +kernel
theorem dL_law_495 : decode cL_law 495 = .ok (.iaload, 1) := by decide +kernel
theorem dL_law_496 : decode cL_law 496 = .ok (.aload_n 0, 1) := by decide +kernel
theorem dL_law_497 : decode cL_law 497 = .ok (.iload_n 3, 1) := by decide +kernel
theorem dL_law_498 : decode cL_law 498 = .ok (.iconst 2, 1) := by decide +kernel
theorem dL_law_499 : decode cL_law 499 = .ok (.iadd, 1) := by decide +kernel
theorem dL_law_500 : decode cL_law 500 = .ok (.iaload, 1) := by decide +kernel
theorem dL_law_501 : decode cL_law 501 = .ok (.aload_n 0, 1) := by decide +kernel
theorem dL_law_502 : decode cL_law 502 = .ok (.iload_n 3, 1) := by decide +kernel
theorem dL_law_503 : decode cL_law 503 = .ok (.iconst 3, 1) := by decide +kernel
theorem dL_law_504 : decode cL_law 504 = .ok (.iadd, 1) := by decide +kernel
theorem dL_law_505 : decode cL_law 505 = .ok (.iaload, 1) := by decide +kernel
theorem dL_law_506 : decode cL_law 506 = .ok (.invokevirtual 72, 3) := by decide +kernel
theorem dL_law_509 : decode cL_law 509 = .ok (.aload_n 2, 1) := by decide +kernel
theorem dL_law_510 : decode cL_law 510 = .ok (.aload_n 0, 1) := by decide +kernel
theorem dL_law_511 : decode cL_law 511 = .ok (.iload_n 3, 1) := by decide +kernel
theorem dL_law_512 : decode cL_law 512 = .ok (.iconst 1, 1) := by decide +kernel
theorem dL_law_513 : decode cL_law 513 = .ok (.iadd, 1) := by decide +kernel
theorem dL_law_514 : decode cL_law 514 = .ok (.iaload, 1) := by decide +kernel
theorem dL_law_515 : decode cL_law 515 = .ok (.aload_n 0, 1) := by decide +kernel
theorem dL_law_516 : decode cL_law 516 = .ok (.iload_n 3, 1) := by decide +kernel
theorem dL_law_517 : decode cL_law 517 = .ok (.iconst 2, 1) := by decide +kernel
theorem dL_law_518 : decode cL_law 518 = .ok (.iadd, 1) := by decide +kernel
theorem dL_law_519 : decode cL_law 519 = .ok (.iaload, 1) := by decide +kernel
theorem dL_law_520 : decode cL_law 520 = .ok (.aload_n 0, 1) := by decide +kernel
theorem dL_law_521 : decode cL_law 521 = .ok (.iload_n 3, 1) := by decide +kernel
theorem dL_law_522 : decode cL_law 522 = .ok (.iconst 3, 1) := by decide +kernel
theorem dL_law_523 : decode cL_law 523 = .ok (.iadd, 1) := by decide +kernel
theorem dL_law_524 : decode cL_law 524 = .ok (.iaload, 1) := by decide +kernel
theorem dL_law_525 : decode cL_law 525 = .ok (.invokevirtual 76, 3) := by decide +kernel
theorem dL_law_528 : decode cL_law 528 = .ok (.if_icmp .eq 266, 3) := by decide +kernel
theorem dL_law_531 : decode cL_law 531 = .ok (.iconst 0, 1) := by decide +kernel
theorem dL_law_532 : decode cL_law 532 = .ok (.ireturn, 1) := by decide +kernel
theorem dL_law_533 : decode cL_law 533 = .ok (.aload_n 1, 1) := by decide +kernel
theorem dL_law_534 : decode cL_law 534 = .ok (.aload_n 0, 1) := by decide +kernel
theorem dL_law_535 : decode cL_law 535 = .ok (.iload_n 3, 1) := by decide +kernel
theorem dL_law_536 : decode cL_law 536 = .ok (.iconst 1, 1) := by decide +kernel
theorem dL_law_537 : decode cL_law 537 = .ok (.iadd, 1) := by decide +kernel
theorem dL_law_538 : decode cL_law 538 = .ok (.iaload, 1) := by decide +kernel
theorem dL_law_539 : decode cL_law 539 = .ok (.aload_n 0, 1) := by decide +kernel
theorem dL_law_540 : decode cL_law 540 = .ok (.iload_n 3, 1) := by decide +kernel
theorem dL_law_541 : decode cL_law 541 = .ok (.iconst 2, 1) := by decide +kernel
theorem dL_law_542 : decode cL_law 542 = .ok (.iadd, 1) := by decide +kernel
theorem dL_law_543 : decode cL_law 543 = .ok (.iaload, 1) := by decide +kernel
theorem dL_law_544 : decode cL_law 544 = .ok (.invokevirtual 77, 3) := by decide +kernel
theorem dL_law_547 : decode cL_law 547 = .ok (.aload_n 2, 1) := by decide +kernel
theorem dL_law_548 : decode cL_law 548 = .ok (.aload_n 0, 1) := by decide +kernel
theorem dL_law_549 : decode cL_law 549 = .ok (.iload_n 3, 1) := by decide +kernel
theorem dL_law_550 : decode cL_law 550 = .ok (.iconst 1, 1) := by decide +kernel
theorem dL_law_551 : decode cL_law 551 = .ok (.iadd, 1) := by decide +kernel
theorem dL_law_552 : decode cL_law 552 = .ok (.iaload, 1) := by decide +kernel
theorem dL_law_553 : decode cL_law 553 = .ok (.aload_n 0, 1) := by decide +kernel
theorem dL_law_554 : decode cL_law 554 = .ok (.iload_n 3, 1) := by decide +kernel
theorem dL_law_555 : decode cL_law 555 = .ok (.iconst 2, 1) := by decide +kernel
theorem dL_law_556 : decode cL_law 556 = .ok (.iadd, 1) := by decide +kernel
theorem dL_law_557 : decode cL_law 557 = .ok (.iaload, 1) := by decide +kernel
theorem dL_law_558 : decode cL_law 558 = .ok (.invokevirtual 80, 3) := by decide +kernel
theorem dL_law_561 : decode cL_law 561 = .ok (.if_icmp .eq 233, 3) := by decide +kernel
theorem dL_law_564 : decode cL_law 564 = .ok (.iconst 0, 1) := by decide +kernel
theorem dL_law_565 : decode cL_law 565 = .ok (.ireturn, 1) := by decide +kernel
theorem dL_law_566 : decode cL_law 566 = .ok (.aload_n 1, 1) := by decide +kernel
theorem dL_law_567 : decode cL_law 567 = .ok (.aload_n 0, 1) := by decide +kernel
theorem dL_law_568 : decode cL_law 568 = .ok (.iload_n 3, 1) := by decide +kernel
theorem dL_law_569 : decode cL_law 569 = .ok (.iconst 1, 1) := by decide +kernel
theorem dL_law_570 : decode cL_law 570 = .ok (.iadd, 1) := by decide +kernel
theorem dL_law_571 : decode cL_law 571 = .ok (.iaload, 1) := by decide +kernel
theorem dL_law_572 : decode cL_law 572 = .ok (.aload_n 0, 1) := by decide +kernel
theorem dL_law_573 : decode cL_law 573 = .ok (.iload_n 3, 1) := by decide +kernel
theorem dL_law_574 : decode cL_law 574 = .ok (.iconst 2, 1) := by decide +kernel
theorem dL_law_575 : decode cL_law 575 = .ok (.iadd, 1) := by decide +kernel
theorem dL_law_576 : decode cL_law 576 = .ok (.iaload, 1) := by decide +kernel
theorem dL_law_577 : decode cL_law 577 = .ok (.aload_n 0, 1) := by decide +kernel
theorem dL_law_578 : decode cL_law 578 = .ok (.iload_n 3, 1) := by decide +kernel
theorem dL_law_579 : decode cL_law 579 = .ok (.iconst 3, 1) := by decide +kernel
theorem dL_law_580 : decode cL_law 580 = .ok (.iadd, 1) := by decide +kernel
theorem dL_law_581 : decode cL_law 581 = .ok (.iaload, 1) := by decide +kernel
theorem dL_law_582 : decode cL_law 582 = .ok (.aload_n 0, 1) := by decide +kernel
theorem dL_law_583 : decode cL_law 583 = .ok (.iload_n 3, 1) := by decide +kernel
theorem dL_law_584 : decode cL_law 584 = .ok (.iconst 4, 1) := by decide +kernel
theorem dL_law_585 : decode cL_law 585 = .ok (.iadd, 1) := by decide +kernel
theorem dL_law_586 : decode cL_law 586 = .ok (.iaload, 1) := by decide +kernel
theorem dL_law_587 : decode cL_law 587 = .ok (.invokevirtual 81, 3) := by decide +kernel
theorem dL_law_590 : decode cL_law 590 = .ok (.aload_n 2, 1) := by decide +kernel
theorem dL_law_591 : decode cL_law 591 = .ok (.aload_n 0, 1) := by decide +kernel
theorem dL_law_592 : decode cL_law 592 = .ok (.iload_n 3, 1) := by decide +kernel
theorem dL_law_593 : decode cL_law 593 = .ok (.iconst 1, 1) := by decide +kernel
theorem dL_law_594 : decode cL_law 594 = .ok (.iadd, 1) := by decide +kernel
theorem dL_law_595 : decode cL_law 595 = .ok (.iaload, 1) := by decide +kernel
theorem dL_law_596 : decode cL_law 596 = .ok (.aload_n 0, 1) := by decide +kernel
theorem dL_law_597 : decode cL_law 597 = .ok (.iload_n 3, 1) := by decide +kernel
theorem dL_law_598 : decode cL_law 598 = .ok (.iconst 2, 1) := by decide +kernel
theorem dL_law_599 : decode cL_law 599 = .ok (.iadd, 1) := by decide +kernel
theorem dL_law_600 : decode cL_law 600 = .ok (.iaload, 1) := by decide +kernel
theorem dL_law_601 : decode cL_law 601 = .ok (.aload_n 0, 1) := by decide +kernel
theorem dL_law_602 : decode cL_law 602 = .ok (.iload_n 3, 1) := by decide +kernel
theorem dL_law_603 : decode cL_law 603 = .ok (.iconst 3, 1) := by decide +kernel
theorem dL_law_604 : decode cL_law 604 = .ok (.iadd, 1) := by decide +kernel
theorem dL_law_605 : decode cL_law 605 = .ok (.iaload, 1) := by decide +kernel
theorem dL_law_606 : decode cL_law 606 = .ok (.aload_n 0, 1) := by decide +kernel
theorem dL_law_607 : decode cL_law 607 = .ok (.iload_n 3, 1) := by decide +kernel
theorem dL_law_608 : decode cL_law 608 = .ok (.iconst 4, 1) := by decide +kernel
theorem dL_law_609 : decode cL_law 609 = .ok (.iadd, 1) := by decide +kernel
theorem dL_law_610 : decode cL_law 610 = .ok (.iaload, 1) := by decide +kernel
theorem dL_law_611 : decode cL_law 611 = .ok (.invokevirtual 85, 3) := by decide +kernel
theorem dL_law_614 : decode cL_law 614 = .ok (.if_icmp .eq 180, 3) := by decide +kernel
theorem dL_law_617 : decode cL_law 617 = .ok (.iconst 0, 1) := by decide +kernel
theorem dL_law_618 : decode cL_law 618 = .ok (.ireturn, 1) := by decide +kernel
theorem dL_law_619 : decode cL_law 619 = .ok (.aload_n 1, 1) := by decide +kernel
theorem dL_law_620 : decode cL_law 620 = .ok (.aload_n 0, 1) := by decide +kernel
theorem dL_law_621 : decode cL_law 621 = .ok (.iload_n 3, 1) := by decide +kernel
theorem dL_law_622 : decode cL_law 622 = .ok (.iconst 1, 1) := by decide +kernel
theorem dL_law_623 : decode cL_law 623 = .ok (.iadd, 1) := by decide +kernel
theorem dL_law_624 : decode cL_law 624 = .ok (.iaload, 1) := by decide +kernel
theorem dL_law_625 : decode cL_law 625 = .ok (.aload_n 0, 1) := by decide +kernel
theorem dL_law_626 : decode cL_law 626 = .ok (.iload_n 3, 1) := by decide +kernel
theorem dL_law_627 : decode cL_law 627 = .ok (.iconst 2, 1) := by decide +kernel
theorem dL_law_628 : decode cL_law 628 = .ok (.iadd, 1) := by decide +kernel
theorem dL_law_629 : decode cL_law 629 = .ok (.iaload, 1) := by decide +kernel
theorem dL_law_630 : decode cL_law 630 = .ok (.invokevirtual 86, 3) := by decide +kernel
theorem dL_law_633 : decode cL_law 633 = .ok (.aload_n 2, 1) := by decide +kernel
theorem dL_law_634 : decode cL_law 634 = .ok (.aload_n 0, 1) := by decide +kernel
theorem dL_law_635 : decode cL_law 635 = .ok (.iload_n 3, 1) := by decide +kernel
theorem dL_law_636 : decode cL_law 636 = .ok (.iconst 1, 1) := by decide +kernel
theorem dL_law_637 : decode cL_law 637 = .ok (.iadd, 1) := by decide +kernel
theorem dL_law_638 : decode cL_law 638 = .ok (.iaload, 1) := by decide +kernel
theorem dL_law_639 : decode cL_law 639 = .ok (.aload_n 0, 1) := by decide +kernel
theorem dL_law_640 : decode cL_law 640 = .ok (.iload_n 3, 1) := by decide +kernel
theorem dL_law_641 : decode cL_law 641 = .ok (.iconst 2, 1) := by decide +kernel
theorem dL_law_642 : decode cL_law 642 = .ok (.iadd, 1) := by decide +kernel
theorem dL_law_643 : decode cL_law 643 = .ok (.iaload, 1) := by decide +kernel
theorem dL_law_644 : decode cL_law 644 = .ok (.invokevirtual 89, 3) := by decide +kernel
theorem dL_law_647 : decode cL_law 647 = .ok (.if_icmp .eq 147, 3) := by decide +kernel
theorem dL_law_650 : decode cL_law 650 = .ok (.iconst 0, 1) := by decide +kernel
theorem dL_law_651 : decode cL_law 651 = .ok (.ireturn, 1) := by decide +kernel
theorem dL_law_652 : decode cL_law 652 = .ok (.aload_n 1, 1) := by decide +kernel
theorem dL_law_653 : decode cL_law 653 = .ok (.invokevirtual 90, 3) := by decide +kernel
theorem dL_law_656 : decode cL_law 656 = .ok (.aload_n 2, 1) := by decide +kernel
theorem dL_law_657 : decode cL_law 657 = .ok (.invokevirtual 93, 3) := by decide +kernel
theorem dL_law_660 : decode cL_law 660 = .ok (.if_icmp .eq 134, 3) := by decide +kernel
theorem dL_law_663 : decode cL_law 663 = .ok (.iconst 0, 1) := by decide +kernel
theorem dL_law_664 : decode cL_law 664 = .ok (.ireturn, 1) := by decide +kernel
theorem dL_law_665 : decode cL_law 665 = .ok (.aload_n 1, 1) := by decide +kernel
theorem dL_law_666 : decode cL_law 666 = .ok (.invokevirtual 94, 3) := by decide +kernel
theorem dL_law_669 : decode cL_law 669 = .ok (.aload_n 2, 1) := by decide +kernel
theorem dL_law_670 : decode cL_law 670 = .ok (.invokevirtual 97, 3) := by decide +kernel
theorem dL_law_673 : decode cL_law 673 = .ok (.if_icmp .eq 121, 3) := by decide +kernel
theorem dL_law_676 : decode cL_law 676 = .ok (.iconst 0, 1) := by decide +kernel
theorem dL_law_677 : decode cL_law 677 = .ok (.ireturn, 1) := by decide +kernel
theorem dL_law_678 : decode cL_law 678 = .ok (.aload_n 1, 1) := by decide +kernel
theorem dL_law_679 : decode cL_law 679 = .ok (.aload_n 0, 1) := by decide +kernel
theorem dL_law_680 : decode cL_law 680 = .ok (.iload_n 3, 1) := by decide +kernel
theorem dL_law_681 : decode cL_law 681 = .ok (.iconst 1, 1) := by decide +kernel
theorem dL_law_682 : decode cL_law 682 = .ok (.iadd, 1) := by decide +kernel
theorem dL_law_683 : decode cL_law 683 = .ok (.iaload, 1) := by decide +kernel
theorem dL_law_684 : decode cL_law 684 = .ok (.aload_n 0, 1) := by decide +kernel
theorem dL_law_685 : decode cL_law 685 = .ok (.iload_n 3, 1) := by decide +kernel
theorem dL_law_686 : decode cL_law 686 = .ok (.iconst 2, 1) := by decide +kernel
theorem dL_law_687 : decode cL_law 687 = .ok (.iadd, 1) := by decide +kernel
theorem dL_law_688 : decode cL_law 688 = .ok (.iaload, 1) := by decide +kernel
theorem dL_law_689 : decode cL_law 689 = .ok (.invokevirtual 98, 3) := by decide +kernel
theorem dL_law_692 : decode cL_law 692 = .ok (.aload_n 2, 1) := by decide +kernel
theorem dL_law_693 : decode cL_law 693 = .ok (.aload_n 0, 1) := by decide +kernel
theorem dL_law_694 : decode cL_law 694 = .ok (.iload_n 3, 1) := by decide +kernel
theorem dL_law_695 : decode cL_law 695 = .ok (.iconst 1, 1) := by decide +kernel
theorem dL_law_696 : decode cL_law 696 = .ok (.iadd, 1) := by decide +kernel
theorem dL_law_697 : decode cL_law 697 = .ok (.iaload, 1) := by decide +kernel
theorem dL_law_698 : decode cL_law 698 = .ok (.aload_n 0, 1) := by decide +kernel
theorem dL_law_699 : decode cL_law 699 = .ok (.iload_n 3, 1) := by decide +kernel
theorem dL_law_700 : decode cL_law 700 = .ok (.iconst 2, 1) := by decide +kernel
theorem dL_law_701 : decode cL_law 701 = .ok (.iadd, 1) := by decide +kernel
theorem dL_law_702 : decode cL_law 702 = .ok (.iaload, 1) := by decide +kernel
theorem dL_law_703 : decode cL_law 703 = .ok (.invokevirtual 101, 3) := by decide +kernel
theorem dL_law_706 : decode cL_law 706 = .ok (.if_icmp .eq 88, 3) := by decide +kernel
theorem dL_law_709 : decode cL_law 709 = .ok (.iconst 0, 1) := by decide +kernel
theorem dL_law_710 : decode cL_law 710 = .ok (.ireturn, 1) := by decide +kernel
theorem dL_law_711 : decode cL_law 711 = .ok (.aload_n 1, 1) := by decide +kernel
theorem dL_law_712 : decode cL_law 712 = .ok (.aload_n 0, 1) := by decide +kernel
theorem dL_law_713 : decode cL_law 713 = .ok (.iload_n 3, 1) := by decide +kernel
theorem dL_law_714 : decode cL_law 714 = .ok (.iconst 1, 1) := by decide +kernel
theorem dL_law_715 : decode cL_law 715 = .ok (.iadd, 1) := by decide +kernel
theorem dL_law_716 : decode cL_law 716 = .ok (.iaload, 1) := by decide +kernel
theorem dL_law_717 : decode cL_law 717 = .ok (.invokevirtual 102, 3) := by decide +kernel
theorem dL_law_720 : decode cL_law 720 = .ok (.aload_n 2, 1) := by decide +kernel
theorem dL_law_721 : decode cL_law 721 = .ok (.aload_n 0, 1) := by decide +kernel
theorem dL_law_722 : decode cL_law 722 = .ok (.iload_n 3, 1) := by decide +kernel
theorem dL_law_723 : decode cL_law 723 = .ok (.iconst 1, 1) := by decide +kernel
theorem dL_law_724 : decode cL_law 724 = .ok (.iadd, 1) := by decide +kernel
theorem dL_law_725 : decode cL_law 725 = .ok (.iaload, 1) := by decide +kernel
theorem dL_law_726 : decode cL_law 726 = .ok (.invokevirtual 105, 3) := by decide +kernel
theorem dL_law_729 : decode cL_law 729 = .ok (.if_icmp .eq 65, 3) := by decide +kernel
theorem dL_law_732 : decode cL_law 732 = .ok (.iconst 0, 1) := by decide +kernel
theorem dL_law_733 : decode cL_law 733 = .ok (.ireturn, 1) := by decide +kernel
theorem dL_law_734 : decode cL_law 734 = .ok (.aload_n 1, 1) := by decide +kernel
theorem dL_law_735 : decode cL_law 735 = .ok (.aload_n 0, 1) := by decide +kernel
theorem dL_law_736 : decode cL_law 736 = .ok (.iload_n 3, 1) := by decide +kernel
theorem dL_law_737 : decode cL_law 737 = .ok (.iconst 1, 1) := by decide +kernel
theorem dL_law_738 : decode cL_law 738 = .ok (.iadd, 1) := by decide +kernel
theorem dL_law_739 : decode cL_law 739 = .ok (.iaload, 1) := by decide +kernel
theorem dL_law_740 : decode cL_law 740 = .ok (.invokevirtual 106, 3) := by decide +kernel
theorem dL_law_743 : decode cL_law 743 = .ok (.aload_n 2, 1) := by decide +kernel
theorem dL_law_744 : decode cL_law 744 = .ok (.aload_n 0, 1) := by decide +kernel
theorem dL_law_745 : decode cL_law 745 = .ok (.iload_n 3, 1) := by decide +kernel
theorem dL_law_746 : decode cL_law 746 = .ok (.iconst 1, 1) := by decide +kernel
theorem dL_law_747 : decode cL_law 747 = .ok (.iadd, 1) := by decide +kernel
theorem dL_law_748 : decode cL_law 748 = .ok (.iaload, 1) := by decide +kernel
theorem dL_law_749 : decode cL_law 749 = .ok (.invokevirtual 109, 3) := by decide +kernel
theorem dL_law_752 : decode cL_law 752 = .ok (.if_icmp .eq 42, 3) := by decide +kernel
theorem dL_law_755 : decode cL_law 755 = .ok (.iconst 0, 1) := by decide +kernel
theorem dL_law_756 : decode cL_law 756 = .ok (.ireturn, 1) := by decide +kernel
theorem dL_law_757 : decode cL_law 757 = .ok (.aload_n 1, 1) := by decide +kernel
theorem dL_law_758 : decode cL_law 758 = .ok (.aload_n 0, 1) := by decide +kernel
theorem dL_law_759 : decode cL_law 759 = .ok (.iload_n 3, 1) := by decide +kernel
theorem dL_law_760 : decode cL_law 760 = .ok (.iconst 1, 1) := by decide +kernel
theorem dL_law_761 : decode cL_law 761 = .ok (.iadd, 1) := by decide +kernel
theorem dL_law_762 : decode cL_law 762 = .ok (.iaload, 1) := by decide +kernel
theorem dL_law_763 : decode cL_law 763 = .ok (.invokevirtual 110, 3) := by decide +kernel
theorem dL_law_766 : decode cL_law 766 = .ok (.aload_n 2, 1) := by decide +kernel
theorem dL_law_767 : decode cL_law 767 = .ok (.aload_n 0, 1) := by decide +kernel
theorem dL_law_768 : decode cL_law 768 = .ok (.iload_n 3, 1) := by decide +kernel
theorem dL_law_769 : decode cL_law 769 = .ok (.iconst 1, 1) := by decide +kernel
theorem dL_law_770 : decode cL_law 770 = .ok (.iadd, 1) := by decide +kernel
theorem dL_law_771 : decode cL_law 771 = .ok (.iaload, 1) := by decide +kernel
theorem dL_law_772 : decode cL_law 772 = .ok (.invokevirtual 113, 3) := by decide +kernel
theorem dL_law_775 : decode cL_law 775 = .ok (.if_icmp .eq 19, 3) := by decide +kernel
theorem dL_law_778 : decode cL_law 778 = .ok (.iconst 0, 1) := by decide +kernel
theorem dL_law_779 : decode cL_law 779 = .ok (.ireturn, 1) := by decide +kernel
theorem dL_law_780 : decode cL_law 780 = .ok (.aload_n 1, 1) := by decide +kernel
theorem dL_law_781 : decode cL_law 781 = .ok (.invokevirtual 114, 3) := by decide +kernel
theorem dL_law_784 : decode cL_law 784 = .ok (.aload_n 2, 1) := by decide +kernel
theorem dL_law_785 : decode cL_law 785 = .ok (.invokevirtual 118, 3) := by decide +kernel
theorem dL_law_788 : decode cL_law 788 = .ok (.lcmp, 1) := by decide +kernel
theorem dL_law_789 : decode cL_law 789 = .ok (.ifCond .eq 5, 3) := by decide +kernel
theorem dL_law_792 : decode cL_law 792 = .ok (.iconst 0, 1) := by decide +kernel
theorem dL_law_793 : decode cL_law 793 = .ok (.ireturn, 1) := by decide +kernel
theorem dL_law_794 : decode cL_law 794 = .ok (.iinc 3 5, 3) := by decide +kernel
theorem dL_law_797 : decode cL_law 797 = .ok (.goto (-779), 3) := by decide +kernel
theorem dL_law_800 : decode cL_law 800 = .ok (.iconst 1, 1) := by decide +kernel
theorem dL_law_801 : decode cL_law 801 = .ok (.ireturn, 1) := by decide +kernel
end
section
section LK
variable {p : Program} {l : Launch} {e : Env} {R : Room} {s : State} {m : MethodId} {args : Array Value} {below : List Frame} {meth : Method} {c : Code} {H : Heap} {locs : List Loc} {cells slots : Nat} {Q : State → Prop}
variable {cc : ByteArray} {nL pc : Nat} {ls : Array Slot} {rest : List Value} {A : Nat → Prop} {E : Ev} {own : String} {rt0 : Option FieldType} {ws : va_W} {n a : Nat} {f : Nat → Int32} {i x : Int32} {fs : List Value} {v : Value}
abbrev inb (i : Int32) (n : Nat) : Prop := ¬ (i < 0 ∨ n ≤ i.toNatClampNeg)
theorem iald (X : Cx p s m args meth c cc nL own rt0) (hK : KK E A s s.heap) (hP : va_P E.1 classes ws H) (q0 : Nat) (ha : ws[q0]? = some (a, .inl (E.2.1, n, .inl f))) (j : Nat) (hj : i.toNatClampNeg = j) (hin : inb i n) (hdg : decode cc pc = .ok (.iaload, 1))
    (kk : W p l e R s m args below meth c H locs cells slots Q (F0 m (pc + 1) ls (.int (f j) :: rest))) : W p l e R s m args below meth c H locs cells slots Q (F0 m pc ls (.int i :: .ref a :: rest)) := by
  subst hj
  exact va_iald X.1 X.2.1 hK.1 hP q0 0 ha rfl hin hdg kk
theorem zald (X : Cx p s m args meth c cc nL own rt0) (hK : KK E A s s.heap) (hP : va_P E.1 classes ws H) (q0 : Nat) (ha : ws[q0]? = some (a, .inl (E.2.2.1, n, .inl f))) (j : Nat) (hj : i.toNatClampNeg = j) (hin : inb i n) (hdg : decode cc pc = .ok (.baload, 1))
    (kk : W p l e R s m args below meth c H locs cells slots Q (F0 m (pc + 1) ls (.int (f j) :: rest))) : W p l e R s m args below meth c H locs cells slots Q (F0 m pc ls (.int i :: .ref a :: rest)) := by
  subst hj
  exact va_zald X.1 X.2.1 hK.1 hP q0 1 ha rfl hin hdg kk
theorem iast (X : Cx p s m args meth c cc nL own rt0) (hK : KK E A s s.heap) (hP : va_P E.1 classes ws H) (hD : va_D A ws) (hS : va_S A s.heap H locs) (q0 : Nat) (ha : ws[q0]? = some (a, .inl (E.2.1, n, .inl f))) (j : Nat) (hj : i.toNatClampNeg = j) (hin : inb i n) (hdg : decode cc pc = .ok (.iastore, 1))
    (kk : ∀ (H1 : Heap) (locs1 : List Loc), va_P E.1 classes (ws.set q0 (a, .inl (E.2.1, n, .inl (upd f j x)))) H1 → va_D A (ws.set q0 (a, .inl (E.2.1, n, .inl (upd f j x)))) → va_S A s.heap H1 locs1 → W p l e R s m args below meth c H1 locs1 cells slots Q (F0 m (pc + 1) ls rest)) : W p l e R s m args below meth c H locs cells slots Q (F0 m pc ls (.int x :: .int i :: .ref a :: rest)) := by
  subst hj
  exact va_iast X.1 X.2.1 hK.1 hP hD hS q0 0 ha rfl hin hdg kk
theorem zast (X : Cx p s m args meth c cc nL own rt0) (hK : KK E A s s.heap) (hP : va_P E.1 classes ws H) (hD : va_D A ws) (hS : va_S A s.heap H locs) (q0 : Nat) (ha : ws[q0]? = some (a, .inl (E.2.2.1, n, .inl f))) (j : Nat) (hj : i.toNatClampNeg = j) (hin : inb i n) (hdg : decode cc pc = .ok (.bastore, 1))
    (kk : ∀ (H1 : Heap) (locs1 : List Loc), va_P E.1 classes (ws.set q0 (a, .inl (E.2.2.1, n, .inl (upd f j (vp_nar .boolean x))))) H1 → va_D A (ws.set q0 (a, .inl (E.2.2.1, n, .inl (upd f j (vp_nar .boolean x))))) → va_S A s.heap H1 locs1 → W p l e R s m args below meth c H1 locs1 cells slots Q (F0 m (pc + 1) ls rest)) : W p l e R s m args below meth c H locs cells slots Q (F0 m pc ls (.int x :: .int i :: .ref a :: rest)) := by
  subst hj
  exact va_zast X.1 X.2.1 hK.1 hP hD hS q0 1 ha rfl hin hdg kk
theorem gf_RX4_12 (X : Cx p s m args meth c cc nL RX4 rt0) (hK : KK E A s s.heap) (hP : va_P E.1 classes ws H) (q0 : Nat) (he : ws[q0]? = some (a, .inr (4, fs))) (hv : fs[0]? = some v) (hdg : decode cc pc = .ok (.getfield 12, 3)) (kk : W p l e R s m args below meth c H locs cells slots Q (F0 m (pc + 3) ls (v :: rest))) : W p l e R s m args below meth c H locs cells slots Q (F0 m pc ls (.ref a :: rest)) := va_get (C := RX4) (T := TX4) (N := 13) X.1 X.2.1 X.2.2.2.2.1 inX4 X.2.2.2.1 hK.1 hP q0 he rfl 0 (by decide) (X.2.2.2.2.1 _ q152) (fun _ h => h) hv hdg kk
theorem gf_RX4_19 (X : Cx p s m args meth c cc nL RX4 rt0) (hK : KK E A s s.heap) (hP : va_P E.1 classes ws H) (q0 : Nat) (he : ws[q0]? = some (a, .inr (4, fs))) (hv : fs[1]? = some v) (hdg : decode cc pc = .ok (.getfield 19, 3)) (kk : W p l e R s m args below meth c H locs cells slots Q (F0 m (pc + 3) ls (v :: rest))) : W p l e R s m args below meth c H locs cells slots Q (F0 m pc ls (.ref a :: rest)) := va_get (C := RX4) (T := TX4) (N := 13) X.1 X.2.1 X.2.2.2.2.1 inX4 X.2.2.2.1 hK.1 hP q0 he rfl 1 (by decide) (X.2.2.2.2.1 _ q153) (fun _ h => h) hv hdg kk
theorem pf_RX4_19 {b : Nat} (X : Cx p s m args meth c cc nL RX4 rt0) (hK : KK E A s s.heap) (hP : va_P E.1 classes ws H) (hD : va_D A ws) (hS : va_S A s.heap H locs) (q0 : Nat) (he : ws[q0]? = some (a, .inr (4, fs))) (hl : fs.length = 13) (hdg : decode cc pc = .ok (.putfield 19, 3)) (kk : ∀ (H1 : Heap) (locs1 : List Loc), va_P E.1 classes (ws.set q0 (a, .inr (4, fs.set 1 (.ref b)))) H1 → va_D A (ws.set q0 (a, .inr (4, fs.set 1 (.ref b)))) → va_S A s.heap H1 locs1 → W p l e R s m args below meth c H1 locs1 cells slots Q (F0 m (pc + 3) ls rest)) : W p l e R s m args below meth c H locs cells slots Q (F0 m pc ls (.ref b :: .ref a :: rest)) := va_put (C := RX4) (T := TX4) (N := 13) (ty := .object "OvenNoses$Told") X.1 X.2.1 X.2.2.2.2.1 inX4 tyX4 tyX4_ok nmX4 X.2.2.2.1 hK.1 hP hD hS q0 he rfl 1 (by decide) (X.2.2.2.2.1 _ q153) (fun _ h => h) rfl (by decide +kernel) rfl rfl (by rw [hl]; decide) hdg kk
theorem gf_RX4_23 (X : Cx p s m args meth c cc nL RX4 rt0) (hK : KK E A s s.heap) (hP : va_P E.1 classes ws H) (q0 : Nat) (he : ws[q0]? = some (a, .inr (4, fs))) (hv : fs[2]? = some v) (hdg : decode cc pc = .ok (.getfield 23, 3)) (kk : W p l e R s m args below meth c H locs cells slots Q (F0 m (pc + 3) ls (v :: rest))) : W p l e R s m args below meth c H locs cells slots Q (F0 m pc ls (.ref a :: rest)) := va_get (C := RX4) (T := TX4) (N := 13) X.1 X.2.1 X.2.2.2.2.1 inX4 X.2.2.2.1 hK.1 hP q0 he rfl 2 (by decide) (X.2.2.2.2.1 _ q154) (fun _ h => h) hv hdg kk
theorem pf_RX4_23 {b : Nat} (X : Cx p s m args meth c cc nL RX4 rt0) (hK : KK E A s s.heap) (hP : va_P E.1 classes ws H) (hD : va_D A ws) (hS : va_S A s.heap H locs) (q0 : Nat) (he : ws[q0]? = some (a, .inr (4, fs))) (hl : fs.length = 13) (hdg : decode cc pc = .ok (.putfield 23, 3)) (kk : ∀ (H1 : Heap) (locs1 : List Loc), va_P E.1 classes (ws.set q0 (a, .inr (4, fs.set 2 (.ref b)))) H1 → va_D A (ws.set q0 (a, .inr (4, fs.set 2 (.ref b)))) → va_S A s.heap H1 locs1 → W p l e R s m args below meth c H1 locs1 cells slots Q (F0 m (pc + 3) ls rest)) : W p l e R s m args below meth c H locs cells slots Q (F0 m pc ls (.ref b :: .ref a :: rest)) := va_put (C := RX4) (T := TX4) (N := 13) (ty := .object "OvenNoses$Told") X.1 X.2.1 X.2.2.2.2.1 inX4 tyX4 tyX4_ok nmX4 X.2.2.2.1 hK.1 hP hD hS q0 he rfl 2 (by decide) (X.2.2.2.2.1 _ q154) (fun _ h => h) rfl (by decide +kernel) rfl rfl (by rw [hl]; decide) hdg kk
theorem gf_RX4_29 (X : Cx p s m args meth c cc nL RX4 rt0) (hK : KK E A s s.heap) (hP : va_P E.1 classes ws H) (q0 : Nat) (he : ws[q0]? = some (a, .inr (4, fs))) (hv : fs[3]? = some v) (hdg : decode cc pc = .ok (.getfield 29, 3)) (kk : W p l e R s m args below meth c H locs cells slots Q (F0 m (pc + 3) ls (v :: rest))) : W p l e R s m args below meth c H locs cells slots Q (F0 m pc ls (.ref a :: rest)) := va_get (C := RX4) (T := TX4) (N := 13) X.1 X.2.1 X.2.2.2.2.1 inX4 X.2.2.2.1 hK.1 hP q0 he rfl 3 (by decide) (X.2.2.2.2.1 _ q155) (fun _ h => h) hv hdg kk
theorem gf_RX4_33 (X : Cx p s m args meth c cc nL RX4 rt0) (hK : KK E A s s.heap) (hP : va_P E.1 classes ws H) (q0 : Nat) (he : ws[q0]? = some (a, .inr (4, fs))) (hv : fs[4]? = some v) (hdg : decode cc pc = .ok (.getfield 33, 3)) (kk : W p l e R s m args below meth c H locs cells slots Q (F0 m (pc + 3) ls (v :: rest))) : W p l e R s m args below meth c H locs cells slots Q (F0 m pc ls (.ref a :: rest)) := va_get (C := RX4) (T := TX4) (N := 13) X.1 X.2.1 X.2.2.2.2.1 inX4 X.2.2.2.1 hK.1 hP q0 he rfl 4 (by decide) (X.2.2.2.2.1 _ q156) (fun _ h => h) hv hdg kk
theorem gf_RX4_36 (X : Cx p s m args meth c cc nL RX4 rt0) (hK : KK E A s s.heap) (hP : va_P E.1 classes ws H) (q0 : Nat) (he : ws[q0]? = some (a, .inr (4, fs))) (hv : fs[5]? = some v) (hdg : decode cc pc = .ok (.getfield 36, 3)) (kk : W p l e R s m args below meth c H locs cells slots Q (F0 m (pc + 3) ls (v :: rest))) : W p l e R s m args below meth c H locs cells slots Q (F0 m pc ls (.ref a :: rest)) := va_get (C := RX4) (T := TX4) (N := 13) X.1 X.2.1 X.2.2.2.2.1 inX4 X.2.2.2.1 hK.1 hP q0 he rfl 5 (by decide) (X.2.2.2.2.1 _ q157) (fun _ h => h) hv hdg kk
theorem gf_RX4_39 (X : Cx p s m args meth c cc nL RX4 rt0) (hK : KK E A s s.heap) (hP : va_P E.1 classes ws H) (q0 : Nat) (he : ws[q0]? = some (a, .inr (4, fs))) (hv : fs[6]? = some v) (hdg : decode cc pc = .ok (.getfield 39, 3)) (kk : W p l e R s m args below meth c H locs cells slots Q (F0 m (pc + 3) ls (v :: rest))) : W p l e R s m args below meth c H locs cells slots Q (F0 m pc ls (.ref a :: rest)) := va_get (C := RX4) (T := TX4) (N := 13) X.1 X.2.1 X.2.2.2.2.1 inX4 X.2.2.2.1 hK.1 hP q0 he rfl 6 (by decide) (X.2.2.2.2.1 _ q158) (fun _ h => h) hv hdg kk
theorem gf_RX4_42 (X : Cx p s m args meth c cc nL RX4 rt0) (hK : KK E A s s.heap) (hP : va_P E.1 classes ws H) (q0 : Nat) (he : ws[q0]? = some (a, .inr (4, fs))) (hv : fs[8]? = some v) (hdg : decode cc pc = .ok (.getfield 42, 3)) (kk : W p l e R s m args below meth c H locs cells slots Q (F0 m (pc + 3) ls (v :: rest))) : W p l e R s m args below meth c H locs cells slots Q (F0 m pc ls (.ref a :: rest)) := va_get (C := RX4) (T := TX4) (N := 13) X.1 X.2.1 X.2.2.2.2.1 inX4 X.2.2.2.1 hK.1 hP q0 he rfl 8 (by decide) (X.2.2.2.2.1 _ q160) (fun _ h => h) hv hdg kk
theorem gf_RX4_46 (X : Cx p s m args meth c cc nL RX4 rt0) (hK : KK E A s s.heap) (hP : va_P E.1 classes ws H) (q0 : Nat) (he : ws[q0]? = some (a, .inr (4, fs))) (hv : fs[9]? = some v) (hdg : decode cc pc = .ok (.getfield 46, 3)) (kk : W p l e R s m args below meth c H locs cells slots Q (F0 m (pc + 3) ls (v :: rest))) : W p l e R s m args below meth c H locs cells slots Q (F0 m pc ls (.ref a :: rest)) := va_get (C := RX4) (T := TX4) (N := 13) X.1 X.2.1 X.2.2.2.2.1 inX4 X.2.2.2.1 hK.1 hP q0 he rfl 9 (by decide) (X.2.2.2.2.1 _ q161) (fun _ h => h) hv hdg kk
theorem gf_RX4_52 (X : Cx p s m args meth c cc nL RX4 rt0) (hK : KK E A s s.heap) (hP : va_P E.1 classes ws H) (q0 : Nat) (he : ws[q0]? = some (a, .inr (4, fs))) (hv : fs[11]? = some v) (hdg : decode cc pc = .ok (.getfield 52, 3)) (kk : W p l e R s m args below meth c H locs cells slots Q (F0 m (pc + 3) ls (v :: rest))) : W p l e R s m args below meth c H locs cells slots Q (F0 m pc ls (.ref a :: rest)) := va_get (C := RX4) (T := TX4) (N := 13) X.1 X.2.1 X.2.2.2.2.1 inX4 X.2.2.2.1 hK.1 hP q0 he rfl 11 (by decide) (X.2.2.2.2.1 _ q163) (fun _ h => h) hv hdg kk
theorem gf_RX4_74 (X : Cx p s m args meth c cc nL RX4 rt0) (hK : KK E A s s.heap) (hP : va_P E.1 classes ws H) (q0 : Nat) (he : ws[q0]? = some (a, .inr (4, fs))) (hv : fs[7]? = some v) (hdg : decode cc pc = .ok (.getfield 74, 3)) (kk : W p l e R s m args below meth c H locs cells slots Q (F0 m (pc + 3) ls (v :: rest))) : W p l e R s m args below meth c H locs cells slots Q (F0 m pc ls (.ref a :: rest)) := va_get (C := RX4) (T := TX4) (N := 13) X.1 X.2.1 X.2.2.2.2.1 inX4 X.2.2.2.1 hK.1 hP q0 he rfl 7 (by decide) (X.2.2.2.2.1 _ q159) (fun _ h => h) hv hdg kk
theorem pf_RX4_74 (X : Cx p s m args meth c cc nL RX4 rt0) (hK : KK E A s s.heap) (hP : va_P E.1 classes ws H) (hD : va_D A ws) (hS : va_S A s.heap H locs) (q0 : Nat) (he : ws[q0]? = some (a, .inr (4, fs))) (hl : fs.length = 13) (hdg : decode cc pc = .ok (.putfield 74, 3)) (kk : ∀ (H1 : Heap) (locs1 : List Loc), va_P E.1 classes (ws.set q0 (a, .inr (4, fs.set 7 (.int x)))) H1 → va_D A (ws.set q0 (a, .inr (4, fs.set 7 (.int x)))) → va_S A s.heap H1 locs1 → W p l e R s m args below meth c H1 locs1 cells slots Q (F0 m (pc + 3) ls rest)) : W p l e R s m args below meth c H locs cells slots Q (F0 m pc ls (.int x :: .ref a :: rest)) := va_put (C := RX4) (T := TX4) (N := 13) (ty := .int) X.1 X.2.1 X.2.2.2.2.1 inX4 tyX4 tyX4_ok nmX4 X.2.2.2.1 hK.1 hP hD hS q0 he rfl 7 (by decide) (X.2.2.2.2.1 _ q159) (fun _ h => h) rfl (by decide +kernel) rfl rfl (by rw [hl]; decide) hdg kk
theorem gf_RX4_78 (X : Cx p s m args meth c cc nL RX4 rt0) (hK : KK E A s s.heap) (hP : va_P E.1 classes ws H) (q0 : Nat) (he : ws[q0]? = some (a, .inr (4, fs))) (hv : fs[10]? = some v) (hdg : decode cc pc = .ok (.getfield 78, 3)) (kk : W p l e R s m args below meth c H locs cells slots Q (F0 m (pc + 3) ls (v :: rest))) : W p l e R s m args below meth c H locs cells slots Q (F0 m pc ls (.ref a :: rest)) := va_get (C := RX4) (T := TX4) (N := 13) X.1 X.2.1 X.2.2.2.2.1 inX4 X.2.2.2.1 hK.1 hP q0 he rfl 10 (by decide) (X.2.2.2.2.1 _ q162) (fun _ h => h) hv hdg kk
theorem pf_RX4_78 (X : Cx p s m args meth c cc nL RX4 rt0) (hK : KK E A s s.heap) (hP : va_P E.1 classes ws H) (hD : va_D A ws) (hS : va_S A s.heap H locs) (q0 : Nat) (he : ws[q0]? = some (a, .inr (4, fs))) (hl : fs.length = 13) (hdg : decode cc pc = .ok (.putfield 78, 3)) (kk : ∀ (H1 : Heap) (locs1 : List Loc), va_P E.1 classes (ws.set q0 (a, .inr (4, fs.set 10 (.int x)))) H1 → va_D A (ws.set q0 (a, .inr (4, fs.set 10 (.int x)))) → va_S A s.heap H1 locs1 → W p l e R s m args below meth c H1 locs1 cells slots Q (F0 m (pc + 3) ls rest)) : W p l e R s m args below meth c H locs cells slots Q (F0 m pc ls (.int x :: .ref a :: rest)) := va_put (C := RX4) (T := TX4) (N := 13) (ty := .int) X.1 X.2.1 X.2.2.2.2.1 inX4 tyX4 tyX4_ok nmX4 X.2.2.2.1 hK.1 hP hD hS q0 he rfl 10 (by decide) (X.2.2.2.2.1 _ q162) (fun _ h => h) rfl (by decide +kernel) rfl rfl (by rw [hl]; decide) hdg kk
theorem gf_RX4_221 (X : Cx p s m args meth c cc nL RX4 rt0) (hK : KK E A s s.heap) (hP : va_P E.1 classes ws H) (q0 : Nat) (he : ws[q0]? = some (a, .inr (4, fs))) (hv : fs[12]? = some v) (hdg : decode cc pc = .ok (.getfield 221, 3)) (kk : W p l e R s m args below meth c H locs cells slots Q (F0 m (pc + 3) ls (v :: rest))) : W p l e R s m args below meth c H locs cells slots Q (F0 m pc ls (.ref a :: rest)) := va_get (C := RX4) (T := TX4) (N := 13) X.1 X.2.1 X.2.2.2.2.1 inX4 X.2.2.2.1 hK.1 hP q0 he rfl 12 (by decide) (X.2.2.2.2.1 _ q164) (fun _ h => h) hv hdg kk
theorem pf_RX4_221 {y : Int64} (X : Cx p s m args meth c cc nL RX4 rt0) (hK : KK E A s s.heap) (hP : va_P E.1 classes ws H) (hD : va_D A ws) (hS : va_S A s.heap H locs) (q0 : Nat) (he : ws[q0]? = some (a, .inr (4, fs))) (hl : fs.length = 13) (hdg : decode cc pc = .ok (.putfield 221, 3)) (kk : ∀ (H1 : Heap) (locs1 : List Loc), va_P E.1 classes (ws.set q0 (a, .inr (4, fs.set 12 (.long y)))) H1 → va_D A (ws.set q0 (a, .inr (4, fs.set 12 (.long y)))) → va_S A s.heap H1 locs1 → W p l e R s m args below meth c H1 locs1 cells slots Q (F0 m (pc + 3) ls rest)) : W p l e R s m args below meth c H locs cells slots Q (F0 m pc ls (.long y :: .ref a :: rest)) := va_put (C := RX4) (T := TX4) (N := 13) (ty := .long) X.1 X.2.1 X.2.2.2.2.1 inX4 tyX4 tyX4_ok nmX4 X.2.2.2.1 hK.1 hP hD hS q0 he rfl 12 (by decide) (X.2.2.2.2.1 _ q164) (fun _ h => h) rfl (by decide +kernel) rfl rfl (by rw [hl]; decide) hdg kk
theorem gf_RX0_11 (X : Cx p s m args meth c cc nL RX0 rt0) (hK : KK E A s s.heap) (hP : va_P E.1 classes ws H) (q0 : Nat) (he : ws[q0]? = some (a, .inr (0, fs))) (hv : fs[0]? = some v) (hdg : decode cc pc = .ok (.getfield 11, 3)) (kk : W p l e R s m args below meth c H locs cells slots Q (F0 m (pc + 3) ls (v :: rest))) : W p l e R s m args below meth c H locs cells slots Q (F0 m pc ls (.ref a :: rest)) := va_get (C := RX0) (T := TX0) (N := 2) X.1 X.2.1 X.2.2.2.2.1 inX0 X.2.2.2.1 hK.1 hP q0 he rfl 0 (by decide) (X.2.2.2.2.1 _ q120) (fun _ h => h) hv hdg kk
theorem gf_RX0_18 (X : Cx p s m args meth c cc nL RX0 rt0) (hK : KK E A s s.heap) (hP : va_P E.1 classes ws H) (q0 : Nat) (he : ws[q0]? = some (a, .inr (0, fs))) (hv : fs[1]? = some v) (hdg : decode cc pc = .ok (.getfield 18, 3)) (kk : W p l e R s m args below meth c H locs cells slots Q (F0 m (pc + 3) ls (v :: rest))) : W p l e R s m args below meth c H locs cells slots Q (F0 m pc ls (.ref a :: rest)) := va_get (C := RX0) (T := TX0) (N := 2) X.1 X.2.1 X.2.2.2.2.1 inX0 X.2.2.2.1 hK.1 hP q0 he rfl 1 (by decide) (X.2.2.2.2.1 _ q121) (fun _ h => h) hv hdg kk
theorem pf_RX0_18 (X : Cx p s m args meth c cc nL RX0 rt0) (hK : KK E A s s.heap) (hP : va_P E.1 classes ws H) (hD : va_D A ws) (hS : va_S A s.heap H locs) (q0 : Nat) (he : ws[q0]? = some (a, .inr (0, fs))) (hl : fs.length = 2) (hdg : decode cc pc = .ok (.putfield 18, 3)) (kk : ∀ (H1 : Heap) (locs1 : List Loc), va_P E.1 classes (ws.set q0 (a, .inr (0, fs.set 1 (.int x)))) H1 → va_D A (ws.set q0 (a, .inr (0, fs.set 1 (.int x)))) → va_S A s.heap H1 locs1 → W p l e R s m args below meth c H1 locs1 cells slots Q (F0 m (pc + 3) ls rest)) : W p l e R s m args below meth c H locs cells slots Q (F0 m pc ls (.int x :: .ref a :: rest)) := va_put (C := RX0) (T := TX0) (N := 2) (ty := .int) X.1 X.2.1 X.2.2.2.2.1 inX0 tyX0 tyX0_ok nmX0 X.2.2.2.1 hK.1 hP hD hS q0 he rfl 1 (by decide) (X.2.2.2.2.1 _ q121) (fun _ h => h) rfl (by decide +kernel) rfl rfl (by rw [hl]; decide) hdg kk
theorem gf_RX1_9 (X : Cx p s m args meth c cc nL RX1 rt0) (hK : KK E A s s.heap) (hP : va_P E.1 classes ws H) (q0 : Nat) (he : ws[q0]? = some (a, .inr (1, fs))) (hv : fs[0]? = some v) (hdg : decode cc pc = .ok (.getfield 9, 3)) (kk : W p l e R s m args below meth c H locs cells slots Q (F0 m (pc + 3) ls (v :: rest))) : W p l e R s m args below meth c H locs cells slots Q (F0 m pc ls (.ref a :: rest)) := va_get (C := RX1) (T := TX1) (N := 6) X.1 X.2.1 X.2.2.2.2.1 inX1 X.2.2.2.1 hK.1 hP q0 he rfl 0 (by decide) (X.2.2.2.2.1 _ q133) (fun _ h => h) hv hdg kk
theorem gf_RX1_15 (X : Cx p s m args meth c cc nL RX1 rt0) (hK : KK E A s s.heap) (hP : va_P E.1 classes ws H) (q0 : Nat) (he : ws[q0]? = some (a, .inr (1, fs))) (hv : fs[1]? = some v) (hdg : decode cc pc = .ok (.getfield 15, 3)) (kk : W p l e R s m args below meth c H locs cells slots Q (F0 m (pc + 3) ls (v :: rest))) : W p l e R s m args below meth c H locs cells slots Q (F0 m pc ls (.ref a :: rest)) := va_get (C := RX1) (T := TX1) (N := 6) X.1 X.2.1 X.2.2.2.2.1 inX1 X.2.2.2.1 hK.1 hP q0 he rfl 1 (by decide) (X.2.2.2.2.1 _ q134) (fun _ h => h) hv hdg kk
theorem gf_RX1_18 (X : Cx p s m args meth c cc nL RX1 rt0) (hK : KK E A s s.heap) (hP : va_P E.1 classes ws H) (q0 : Nat) (he : ws[q0]? = some (a, .inr (1, fs))) (hv : fs[2]? = some v) (hdg : decode cc pc = .ok (.getfield 18, 3)) (kk : W p l e R s m args below meth c H locs cells slots Q (F0 m (pc + 3) ls (v :: rest))) : W p l e R s m args below meth c H locs cells slots Q (F0 m pc ls (.ref a :: rest)) := va_get (C := RX1) (T := TX1) (N := 6) X.1 X.2.1 X.2.2.2.2.1 inX1 X.2.2.2.1 hK.1 hP q0 he rfl 2 (by decide) (X.2.2.2.2.1 _ q135) (fun _ h => h) hv hdg kk
theorem gf_RX1_21 (X : Cx p s m args meth c cc nL RX1 rt0) (hK : KK E A s s.heap) (hP : va_P E.1 classes ws H) (q0 : Nat) (he : ws[q0]? = some (a, .inr (1, fs))) (hv : fs[3]? = some v) (hdg : decode cc pc = .ok (.getfield 21, 3)) (kk : W p l e R s m args below meth c H locs cells slots Q (F0 m (pc + 3) ls (v :: rest))) : W p l e R s m args below meth c H locs cells slots Q (F0 m pc ls (.ref a :: rest)) := va_get (C := RX1) (T := TX1) (N := 6) X.1 X.2.1 X.2.2.2.2.1 inX1 X.2.2.2.1 hK.1 hP q0 he rfl 3 (by decide) (X.2.2.2.2.1 _ q136) (fun _ h => h) hv hdg kk
theorem pf_RX1_21 (X : Cx p s m args meth c cc nL RX1 rt0) (hK : KK E A s s.heap) (hP : va_P E.1 classes ws H) (hD : va_D A ws) (hS : va_S A s.heap H locs) (q0 : Nat) (he : ws[q0]? = some (a, .inr (1, fs))) (hl : fs.length = 6) (hdg : decode cc pc = .ok (.putfield 21, 3)) (kk : ∀ (H1 : Heap) (locs1 : List Loc), va_P E.1 classes (ws.set q0 (a, .inr (1, fs.set 3 (.int x)))) H1 → va_D A (ws.set q0 (a, .inr (1, fs.set 3 (.int x)))) → va_S A s.heap H1 locs1 → W p l e R s m args below meth c H1 locs1 cells slots Q (F0 m (pc + 3) ls rest)) : W p l e R s m args below meth c H locs cells slots Q (F0 m pc ls (.int x :: .ref a :: rest)) := va_put (C := RX1) (T := TX1) (N := 6) (ty := .int) X.1 X.2.1 X.2.2.2.2.1 inX1 tyX1 tyX1_ok nmX1 X.2.2.2.1 hK.1 hP hD hS q0 he rfl 3 (by decide) (X.2.2.2.2.1 _ q136) (fun _ h => h) rfl (by decide +kernel) rfl rfl (by rw [hl]; decide) hdg kk
theorem gf_RX1_31 (X : Cx p s m args meth c cc nL RX1 rt0) (hK : KK E A s s.heap) (hP : va_P E.1 classes ws H) (q0 : Nat) (he : ws[q0]? = some (a, .inr (1, fs))) (hv : fs[4]? = some v) (hdg : decode cc pc = .ok (.getfield 31, 3)) (kk : W p l e R s m args below meth c H locs cells slots Q (F0 m (pc + 3) ls (v :: rest))) : W p l e R s m args below meth c H locs cells slots Q (F0 m pc ls (.ref a :: rest)) := va_get (C := RX1) (T := TX1) (N := 6) X.1 X.2.1 X.2.2.2.2.1 inX1 X.2.2.2.1 hK.1 hP q0 he rfl 4 (by decide) (X.2.2.2.2.1 _ q137) (fun _ h => h) hv hdg kk
theorem pf_RX1_31 (X : Cx p s m args meth c cc nL RX1 rt0) (hK : KK E A s s.heap) (hP : va_P E.1 classes ws H) (hD : va_D A ws) (hS : va_S A s.heap H locs) (q0 : Nat) (he : ws[q0]? = some (a, .inr (1, fs))) (hl : fs.length = 6) (hdg : decode cc pc = .ok (.putfield 31, 3)) (kk : ∀ (H1 : Heap) (locs1 : List Loc), va_P E.1 classes (ws.set q0 (a, .inr (1, fs.set 4 (.int x)))) H1 → va_D A (ws.set q0 (a, .inr (1, fs.set 4 (.int x)))) → va_S A s.heap H1 locs1 → W p l e R s m args below meth c H1 locs1 cells slots Q (F0 m (pc + 3) ls rest)) : W p l e R s m args below meth c H locs cells slots Q (F0 m pc ls (.int x :: .ref a :: rest)) := va_put (C := RX1) (T := TX1) (N := 6) (ty := .int) X.1 X.2.1 X.2.2.2.2.1 inX1 tyX1 tyX1_ok nmX1 X.2.2.2.1 hK.1 hP hD hS q0 he rfl 4 (by decide) (X.2.2.2.2.1 _ q137) (fun _ h => h) rfl (by decide +kernel) rfl rfl (by rw [hl]; decide) hdg kk
theorem gf_RX1_34 (X : Cx p s m args meth c cc nL RX1 rt0) (hK : KK E A s s.heap) (hP : va_P E.1 classes ws H) (q0 : Nat) (he : ws[q0]? = some (a, .inr (1, fs))) (hv : fs[5]? = some v) (hdg : decode cc pc = .ok (.getfield 34, 3)) (kk : W p l e R s m args below meth c H locs cells slots Q (F0 m (pc + 3) ls (v :: rest))) : W p l e R s m args below meth c H locs cells slots Q (F0 m pc ls (.ref a :: rest)) := va_get (C := RX1) (T := TX1) (N := 6) X.1 X.2.1 X.2.2.2.2.1 inX1 X.2.2.2.1 hK.1 hP q0 he rfl 5 (by decide) (X.2.2.2.2.1 _ q138) (fun _ h => h) hv hdg kk
theorem pf_RX1_34 (X : Cx p s m args meth c cc nL RX1 rt0) (hK : KK E A s s.heap) (hP : va_P E.1 classes ws H) (hD : va_D A ws) (hS : va_S A s.heap H locs) (q0 : Nat) (he : ws[q0]? = some (a, .inr (1, fs))) (hl : fs.length = 6) (hdg : decode cc pc = .ok (.putfield 34, 3)) (kk : ∀ (H1 : Heap) (locs1 : List Loc), va_P E.1 classes (ws.set q0 (a, .inr (1, fs.set 5 (.int x)))) H1 → va_D A (ws.set q0 (a, .inr (1, fs.set 5 (.int x)))) → va_S A s.heap H1 locs1 → W p l e R s m args below meth c H1 locs1 cells slots Q (F0 m (pc + 3) ls rest)) : W p l e R s m args below meth c H locs cells slots Q (F0 m pc ls (.int x :: .ref a :: rest)) := va_put (C := RX1) (T := TX1) (N := 6) (ty := .int) X.1 X.2.1 X.2.2.2.2.1 inX1 tyX1 tyX1_ok nmX1 X.2.2.2.1 hK.1 hP hD hS q0 he rfl 5 (by decide) (X.2.2.2.2.1 _ q138) (fun _ h => h) rfl (by decide +kernel) rfl rfl (by rw [hl]; decide) hdg kk
theorem gf_RX2_11 (X : Cx p s m args meth c cc nL RX2 rt0) (hK : KK E A s s.heap) (hP : va_P E.1 classes ws H) (q0 : Nat) (he : ws[q0]? = some (a, .inr (2, fs))) (hv : fs[0]? = some v) (hdg : decode cc pc = .ok (.getfield 11, 3)) (kk : W p l e R s m args below meth c H locs cells slots Q (F0 m (pc + 3) ls (v :: rest))) : W p l e R s m args below meth c H locs cells slots Q (F0 m pc ls (.ref a :: rest)) := va_get (C := RX2) (T := TX2) (N := 6) X.1 X.2.1 X.2.2.2.2.1 inX2 X.2.2.2.1 hK.1 hP q0 he rfl 0 (by decide) (X.2.2.2.2.1 _ q71) (fun _ h => h) hv hdg kk
theorem gf_RX2_15 (X : Cx p s m args meth c cc nL RX2 rt0) (hK : KK E A s s.heap) (hP : va_P E.1 classes ws H) (q0 : Nat) (he : ws[q0]? = some (a, .inr (2, fs))) (hv : fs[1]? = some v) (hdg : decode cc pc = .ok (.getfield 15, 3)) (kk : W p l e R s m args below meth c H locs cells slots Q (F0 m (pc + 3) ls (v :: rest))) : W p l e R s m args below meth c H locs cells slots Q (F0 m pc ls (.ref a :: rest)) := va_get (C := RX2) (T := TX2) (N := 6) X.1 X.2.1 X.2.2.2.2.1 inX2 X.2.2.2.1 hK.1 hP q0 he rfl 1 (by decide) (X.2.2.2.2.1 _ q72) (fun _ h => h) hv hdg kk
theorem pf_RX2_15 (X : Cx p s m args meth c cc nL RX2 rt0) (hK : KK E A s s.heap) (hP : va_P E.1 classes ws H) (hD : va_D A ws) (hS : va_S A s.heap H locs) (q0 : Nat) (he : ws[q0]? = some (a, .inr (2, fs))) (hl : fs.length = 6) (hdg : decode cc pc = .ok (.putfield 15, 3)) (kk : ∀ (H1 : Heap) (locs1 : List Loc), va_P E.1 classes (ws.set q0 (a, .inr (2, fs.set 1 (.int x)))) H1 → va_D A (ws.set q0 (a, .inr (2, fs.set 1 (.int x)))) → va_S A s.heap H1 locs1 → W p l e R s m args below meth c H1 locs1 cells slots Q (F0 m (pc + 3) ls rest)) : W p l e R s m args below meth c H locs cells slots Q (F0 m pc ls (.int x :: .ref a :: rest)) := va_put (C := RX2) (T := TX2) (N := 6) (ty := .int) X.1 X.2.1 X.2.2.2.2.1 inX2 tyX2 tyX2_ok nmX2 X.2.2.2.1 hK.1 hP hD hS q0 he rfl 1 (by decide) (X.2.2.2.2.1 _ q72) (fun _ h => h) rfl (by decide +kernel) rfl rfl (by rw [hl]; decide) hdg kk
theorem gf_RX2_19 (X : Cx p s m args meth c cc nL RX2 rt0) (hK : KK E A s s.heap) (hP : va_P E.1 classes ws H) (q0 : Nat) (he : ws[q0]? = some (a, .inr (2, fs))) (hv : fs[2]? = some v) (hdg : decode cc pc = .ok (.getfield 19, 3)) (kk : W p l e R s m args below meth c H locs cells slots Q (F0 m (pc + 3) ls (v :: rest))) : W p l e R s m args below meth c H locs cells slots Q (F0 m pc ls (.ref a :: rest)) := va_get (C := RX2) (T := TX2) (N := 6) X.1 X.2.1 X.2.2.2.2.1 inX2 X.2.2.2.1 hK.1 hP q0 he rfl 2 (by decide) (X.2.2.2.2.1 _ q73) (fun _ h => h) hv hdg kk
theorem pf_RX2_19 (X : Cx p s m args meth c cc nL RX2 rt0) (hK : KK E A s s.heap) (hP : va_P E.1 classes ws H) (hD : va_D A ws) (hS : va_S A s.heap H locs) (q0 : Nat) (he : ws[q0]? = some (a, .inr (2, fs))) (hl : fs.length = 6) (hdg : decode cc pc = .ok (.putfield 19, 3)) (kk : ∀ (H1 : Heap) (locs1 : List Loc), va_P E.1 classes (ws.set q0 (a, .inr (2, fs.set 2 (.int x)))) H1 → va_D A (ws.set q0 (a, .inr (2, fs.set 2 (.int x)))) → va_S A s.heap H1 locs1 → W p l e R s m args below meth c H1 locs1 cells slots Q (F0 m (pc + 3) ls rest)) : W p l e R s m args below meth c H locs cells slots Q (F0 m pc ls (.int x :: .ref a :: rest)) := va_put (C := RX2) (T := TX2) (N := 6) (ty := .int) X.1 X.2.1 X.2.2.2.2.1 inX2 tyX2 tyX2_ok nmX2 X.2.2.2.1 hK.1 hP hD hS q0 he rfl 2 (by decide) (X.2.2.2.2.1 _ q73) (fun _ h => h) rfl (by decide +kernel) rfl rfl (by rw [hl]; decide) hdg kk
theorem gf_RX2_30 (X : Cx p s m args meth c cc nL RX2 rt0) (hK : KK E A s s.heap) (hP : va_P E.1 classes ws H) (q0 : Nat) (he : ws[q0]? = some (a, .inr (2, fs))) (hv : fs[3]? = some v) (hdg : decode cc pc = .ok (.getfield 30, 3)) (kk : W p l e R s m args below meth c H locs cells slots Q (F0 m (pc + 3) ls (v :: rest))) : W p l e R s m args below meth c H locs cells slots Q (F0 m pc ls (.ref a :: rest)) := va_get (C := RX2) (T := TX2) (N := 6) X.1 X.2.1 X.2.2.2.2.1 inX2 X.2.2.2.1 hK.1 hP q0 he rfl 3 (by decide) (X.2.2.2.2.1 _ q74) (fun _ h => h) hv hdg kk
theorem pf_RX2_30 (X : Cx p s m args meth c cc nL RX2 rt0) (hK : KK E A s s.heap) (hP : va_P E.1 classes ws H) (hD : va_D A ws) (hS : va_S A s.heap H locs) (q0 : Nat) (he : ws[q0]? = some (a, .inr (2, fs))) (hl : fs.length = 6) (hdg : decode cc pc = .ok (.putfield 30, 3)) (kk : ∀ (H1 : Heap) (locs1 : List Loc), va_P E.1 classes (ws.set q0 (a, .inr (2, fs.set 3 (.int x)))) H1 → va_D A (ws.set q0 (a, .inr (2, fs.set 3 (.int x)))) → va_S A s.heap H1 locs1 → W p l e R s m args below meth c H1 locs1 cells slots Q (F0 m (pc + 3) ls rest)) : W p l e R s m args below meth c H locs cells slots Q (F0 m pc ls (.int x :: .ref a :: rest)) := va_put (C := RX2) (T := TX2) (N := 6) (ty := .int) X.1 X.2.1 X.2.2.2.2.1 inX2 tyX2 tyX2_ok nmX2 X.2.2.2.1 hK.1 hP hD hS q0 he rfl 3 (by decide) (X.2.2.2.2.1 _ q74) (fun _ h => h) rfl (by decide +kernel) rfl rfl (by rw [hl]; decide) hdg kk
theorem gf_RX2_37 (X : Cx p s m args meth c cc nL RX2 rt0) (hK : KK E A s s.heap) (hP : va_P E.1 classes ws H) (q0 : Nat) (he : ws[q0]? = some (a, .inr (2, fs))) (hv : fs[4]? = some v) (hdg : decode cc pc = .ok (.getfield 37, 3)) (kk : W p l e R s m args below meth c H locs cells slots Q (F0 m (pc + 3) ls (v :: rest))) : W p l e R s m args below meth c H locs cells slots Q (F0 m pc ls (.ref a :: rest)) := va_get (C := RX2) (T := TX2) (N := 6) X.1 X.2.1 X.2.2.2.2.1 inX2 X.2.2.2.1 hK.1 hP q0 he rfl 4 (by decide) (X.2.2.2.2.1 _ q75) (fun _ h => h) hv hdg kk
theorem pf_RX2_37 (X : Cx p s m args meth c cc nL RX2 rt0) (hK : KK E A s s.heap) (hP : va_P E.1 classes ws H) (hD : va_D A ws) (hS : va_S A s.heap H locs) (q0 : Nat) (he : ws[q0]? = some (a, .inr (2, fs))) (hl : fs.length = 6) (hdg : decode cc pc = .ok (.putfield 37, 3)) (kk : ∀ (H1 : Heap) (locs1 : List Loc), va_P E.1 classes (ws.set q0 (a, .inr (2, fs.set 4 (.int x)))) H1 → va_D A (ws.set q0 (a, .inr (2, fs.set 4 (.int x)))) → va_S A s.heap H1 locs1 → W p l e R s m args below meth c H1 locs1 cells slots Q (F0 m (pc + 3) ls rest)) : W p l e R s m args below meth c H locs cells slots Q (F0 m pc ls (.int x :: .ref a :: rest)) := va_put (C := RX2) (T := TX2) (N := 6) (ty := .int) X.1 X.2.1 X.2.2.2.2.1 inX2 tyX2 tyX2_ok nmX2 X.2.2.2.1 hK.1 hP hD hS q0 he rfl 4 (by decide) (X.2.2.2.2.1 _ q75) (fun _ h => h) rfl (by decide +kernel) rfl rfl (by rw [hl]; decide) hdg kk
theorem gf_RX2_40 (X : Cx p s m args meth c cc nL RX2 rt0) (hK : KK E A s s.heap) (hP : va_P E.1 classes ws H) (q0 : Nat) (he : ws[q0]? = some (a, .inr (2, fs))) (hv : fs[5]? = some v) (hdg : decode cc pc = .ok (.getfield 40, 3)) (kk : W p l e R s m args below meth c H locs cells slots Q (F0 m (pc + 3) ls (v :: rest))) : W p l e R s m args below meth c H locs cells slots Q (F0 m pc ls (.ref a :: rest)) := va_get (C := RX2) (T := TX2) (N := 6) X.1 X.2.1 X.2.2.2.2.1 inX2 X.2.2.2.1 hK.1 hP q0 he rfl 5 (by decide) (X.2.2.2.2.1 _ q76) (fun _ h => h) hv hdg kk
theorem pf_RX2_40 (X : Cx p s m args meth c cc nL RX2 rt0) (hK : KK E A s s.heap) (hP : va_P E.1 classes ws H) (hD : va_D A ws) (hS : va_S A s.heap H locs) (q0 : Nat) (he : ws[q0]? = some (a, .inr (2, fs))) (hl : fs.length = 6) (hdg : decode cc pc = .ok (.putfield 40, 3)) (kk : ∀ (H1 : Heap) (locs1 : List Loc), va_P E.1 classes (ws.set q0 (a, .inr (2, fs.set 5 (.int x)))) H1 → va_D A (ws.set q0 (a, .inr (2, fs.set 5 (.int x)))) → va_S A s.heap H1 locs1 → W p l e R s m args below meth c H1 locs1 cells slots Q (F0 m (pc + 3) ls rest)) : W p l e R s m args below meth c H locs cells slots Q (F0 m pc ls (.int x :: .ref a :: rest)) := va_put (C := RX2) (T := TX2) (N := 6) (ty := .int) X.1 X.2.1 X.2.2.2.2.1 inX2 tyX2 tyX2_ok nmX2 X.2.2.2.1 hK.1 hP hD hS q0 he rfl 5 (by decide) (X.2.2.2.2.1 _ q76) (fun _ h => h) rfl (by decide +kernel) rfl rfl (by rw [hl]; decide) hdg kk
theorem gf_RX3_9 (X : Cx p s m args meth c cc nL RX3 rt0) (hK : KK E A s s.heap) (hP : va_P E.1 classes ws H) (q0 : Nat) (he : ws[q0]? = some (a, .inr (3, fs))) (hv : fs[0]? = some v) (hdg : decode cc pc = .ok (.getfield 9, 3)) (kk : W p l e R s m args below meth c H locs cells slots Q (F0 m (pc + 3) ls (v :: rest))) : W p l e R s m args below meth c H locs cells slots Q (F0 m pc ls (.ref a :: rest)) := va_get (C := RX3) (T := TX3) (N := 4) X.1 X.2.1 X.2.2.2.2.1 inX3 X.2.2.2.1 hK.1 hP q0 he rfl 0 (by decide) (X.2.2.2.2.1 _ q97) (fun _ h => h) hv hdg kk
theorem gf_RX3_15 (X : Cx p s m args meth c cc nL RX3 rt0) (hK : KK E A s s.heap) (hP : va_P E.1 classes ws H) (q0 : Nat) (he : ws[q0]? = some (a, .inr (3, fs))) (hv : fs[1]? = some v) (hdg : decode cc pc = .ok (.getfield 15, 3)) (kk : W p l e R s m args below meth c H locs cells slots Q (F0 m (pc + 3) ls (v :: rest))) : W p l e R s m args below meth c H locs cells slots Q (F0 m pc ls (.ref a :: rest)) := va_get (C := RX3) (T := TX3) (N := 4) X.1 X.2.1 X.2.2.2.2.1 inX3 X.2.2.2.1 hK.1 hP q0 he rfl 1 (by decide) (X.2.2.2.2.1 _ q98) (fun _ h => h) hv hdg kk
theorem gf_RX3_18 (X : Cx p s m args meth c cc nL RX3 rt0) (hK : KK E A s s.heap) (hP : va_P E.1 classes ws H) (q0 : Nat) (he : ws[q0]? = some (a, .inr (3, fs))) (hv : fs[2]? = some v) (hdg : decode cc pc = .ok (.getfield 18, 3)) (kk : W p l e R s m args below meth c H locs cells slots Q (F0 m (pc + 3) ls (v :: rest))) : W p l e R s m args below meth c H locs cells slots Q (F0 m pc ls (.ref a :: rest)) := va_get (C := RX3) (T := TX3) (N := 4) X.1 X.2.1 X.2.2.2.2.1 inX3 X.2.2.2.1 hK.1 hP q0 he rfl 2 (by decide) (X.2.2.2.2.1 _ q99) (fun _ h => h) hv hdg kk
theorem pf_RX3_18 (X : Cx p s m args meth c cc nL RX3 rt0) (hK : KK E A s s.heap) (hP : va_P E.1 classes ws H) (hD : va_D A ws) (hS : va_S A s.heap H locs) (q0 : Nat) (he : ws[q0]? = some (a, .inr (3, fs))) (hl : fs.length = 4) (hdg : decode cc pc = .ok (.putfield 18, 3)) (kk : ∀ (H1 : Heap) (locs1 : List Loc), va_P E.1 classes (ws.set q0 (a, .inr (3, fs.set 2 (.int x)))) H1 → va_D A (ws.set q0 (a, .inr (3, fs.set 2 (.int x)))) → va_S A s.heap H1 locs1 → W p l e R s m args below meth c H1 locs1 cells slots Q (F0 m (pc + 3) ls rest)) : W p l e R s m args below meth c H locs cells slots Q (F0 m pc ls (.int x :: .ref a :: rest)) := va_put (C := RX3) (T := TX3) (N := 4) (ty := .int) X.1 X.2.1 X.2.2.2.2.1 inX3 tyX3 tyX3_ok nmX3 X.2.2.2.1 hK.1 hP hD hS q0 he rfl 2 (by decide) (X.2.2.2.2.1 _ q99) (fun _ h => h) rfl (by decide +kernel) rfl rfl (by rw [hl]; decide) hdg kk
theorem gf_RX3_22 (X : Cx p s m args meth c cc nL RX3 rt0) (hK : KK E A s s.heap) (hP : va_P E.1 classes ws H) (q0 : Nat) (he : ws[q0]? = some (a, .inr (3, fs))) (hv : fs[3]? = some v) (hdg : decode cc pc = .ok (.getfield 22, 3)) (kk : W p l e R s m args below meth c H locs cells slots Q (F0 m (pc + 3) ls (v :: rest))) : W p l e R s m args below meth c H locs cells slots Q (F0 m pc ls (.ref a :: rest)) := va_get (C := RX3) (T := TX3) (N := 4) X.1 X.2.1 X.2.2.2.2.1 inX3 X.2.2.2.1 hK.1 hP q0 he rfl 3 (by decide) (X.2.2.2.2.1 _ q100) (fun _ h => h) hv hdg kk
theorem pf_RX3_22 (X : Cx p s m args meth c cc nL RX3 rt0) (hK : KK E A s s.heap) (hP : va_P E.1 classes ws H) (hD : va_D A ws) (hS : va_S A s.heap H locs) (q0 : Nat) (he : ws[q0]? = some (a, .inr (3, fs))) (hl : fs.length = 4) (hdg : decode cc pc = .ok (.putfield 22, 3)) (kk : ∀ (H1 : Heap) (locs1 : List Loc), va_P E.1 classes (ws.set q0 (a, .inr (3, fs.set 3 (.int x)))) H1 → va_D A (ws.set q0 (a, .inr (3, fs.set 3 (.int x)))) → va_S A s.heap H1 locs1 → W p l e R s m args below meth c H1 locs1 cells slots Q (F0 m (pc + 3) ls rest)) : W p l e R s m args below meth c H locs cells slots Q (F0 m pc ls (.int x :: .ref a :: rest)) := va_put (C := RX3) (T := TX3) (N := 4) (ty := .int) X.1 X.2.1 X.2.2.2.2.1 inX3 tyX3 tyX3_ok nmX3 X.2.2.2.1 hK.1 hP hD hS q0 he rfl 3 (by decide) (X.2.2.2.2.1 _ q100) (fun _ h => h) rfl (by decide +kernel) rfl rfl (by rw [hl]; decide) hdg kk
theorem gf_RX5_7 (X : Cx p s m args meth c cc nL RX5 rt0) (hK : KK E A s s.heap) (hP : va_P E.1 classes ws H) (q0 : Nat) (he : ws[q0]? = some (a, .inr (5, fs))) (hv : fs[1]? = some v) (hdg : decode cc pc = .ok (.getfield 7, 3)) (kk : W p l e R s m args below meth c H locs cells slots Q (F0 m (pc + 3) ls (v :: rest))) : W p l e R s m args below meth c H locs cells slots Q (F0 m pc ls (.ref a :: rest)) := va_get (C := RX5) (T := TX5) (N := 17) X.1 X.2.1 X.2.2.2.2.1 inX5 X.2.2.2.1 hK.1 hP q0 he rfl 1 (by decide) (X.2.2.2.2.1 _ q632) (fun _ h => h) hv hdg kk
theorem gf_RX5_13 (X : Cx p s m args meth c cc nL RX5 rt0) (hK : KK E A s s.heap) (hP : va_P E.1 classes ws H) (q0 : Nat) (he : ws[q0]? = some (a, .inr (5, fs))) (hv : fs[3]? = some v) (hdg : decode cc pc = .ok (.getfield 13, 3)) (kk : W p l e R s m args below meth c H locs cells slots Q (F0 m (pc + 3) ls (v :: rest))) : W p l e R s m args below meth c H locs cells slots Q (F0 m pc ls (.ref a :: rest)) := va_get (C := RX5) (T := TX5) (N := 17) X.1 X.2.1 X.2.2.2.2.1 inX5 X.2.2.2.1 hK.1 hP q0 he rfl 3 (by decide) (X.2.2.2.2.1 _ q634) (fun _ h => h) hv hdg kk
theorem gf_RX5_16 (X : Cx p s m args meth c cc nL RX5 rt0) (hK : KK E A s s.heap) (hP : va_P E.1 classes ws H) (q0 : Nat) (he : ws[q0]? = some (a, .inr (5, fs))) (hv : fs[4]? = some v) (hdg : decode cc pc = .ok (.getfield 16, 3)) (kk : W p l e R s m args below meth c H locs cells slots Q (F0 m (pc + 3) ls (v :: rest))) : W p l e R s m args below meth c H locs cells slots Q (F0 m pc ls (.ref a :: rest)) := va_get (C := RX5) (T := TX5) (N := 17) X.1 X.2.1 X.2.2.2.2.1 inX5 X.2.2.2.1 hK.1 hP q0 he rfl 4 (by decide) (X.2.2.2.2.1 _ q635) (fun _ h => h) hv hdg kk
theorem gf_RX5_19 (X : Cx p s m args meth c cc nL RX5 rt0) (hK : KK E A s s.heap) (hP : va_P E.1 classes ws H) (q0 : Nat) (he : ws[q0]? = some (a, .inr (5, fs))) (hv : fs[5]? = some v) (hdg : decode cc pc = .ok (.getfield 19, 3)) (kk : W p l e R s m args below meth c H locs cells slots Q (F0 m (pc + 3) ls (v :: rest))) : W p l e R s m args below meth c H locs cells slots Q (F0 m pc ls (.ref a :: rest)) := va_get (C := RX5) (T := TX5) (N := 17) X.1 X.2.1 X.2.2.2.2.1 inX5 X.2.2.2.1 hK.1 hP q0 he rfl 5 (by decide) (X.2.2.2.2.1 _ q636) (fun _ h => h) hv hdg kk
theorem gf_RX5_22 (X : Cx p s m args meth c cc nL RX5 rt0) (hK : KK E A s s.heap) (hP : va_P E.1 classes ws H) (q0 : Nat) (he : ws[q0]? = some (a, .inr (5, fs))) (hv : fs[6]? = some v) (hdg : decode cc pc = .ok (.getfield 22, 3)) (kk : W p l e R s m args below meth c H locs cells slots Q (F0 m (pc + 3) ls (v :: rest))) : W p l e R s m args below meth c H locs cells slots Q (F0 m pc ls (.ref a :: rest)) := va_get (C := RX5) (T := TX5) (N := 17) X.1 X.2.1 X.2.2.2.2.1 inX5 X.2.2.2.1 hK.1 hP q0 he rfl 6 (by decide) (X.2.2.2.2.1 _ q637) (fun _ h => h) hv hdg kk
theorem gf_RX5_25 (X : Cx p s m args meth c cc nL RX5 rt0) (hK : KK E A s s.heap) (hP : va_P E.1 classes ws H) (q0 : Nat) (he : ws[q0]? = some (a, .inr (5, fs))) (hv : fs[7]? = some v) (hdg : decode cc pc = .ok (.getfield 25, 3)) (kk : W p l e R s m args below meth c H locs cells slots Q (F0 m (pc + 3) ls (v :: rest))) : W p l e R s m args below meth c H locs cells slots Q (F0 m pc ls (.ref a :: rest)) := va_get (C := RX5) (T := TX5) (N := 17) X.1 X.2.1 X.2.2.2.2.1 inX5 X.2.2.2.1 hK.1 hP q0 he rfl 7 (by decide) (X.2.2.2.2.1 _ q638) (fun _ h => h) hv hdg kk
theorem gf_RX5_29 (X : Cx p s m args meth c cc nL RX5 rt0) (hK : KK E A s s.heap) (hP : va_P E.1 classes ws H) (q0 : Nat) (he : ws[q0]? = some (a, .inr (5, fs))) (hv : fs[8]? = some v) (hdg : decode cc pc = .ok (.getfield 29, 3)) (kk : W p l e R s m args below meth c H locs cells slots Q (F0 m (pc + 3) ls (v :: rest))) : W p l e R s m args below meth c H locs cells slots Q (F0 m pc ls (.ref a :: rest)) := va_get (C := RX5) (T := TX5) (N := 17) X.1 X.2.1 X.2.2.2.2.1 inX5 X.2.2.2.1 hK.1 hP q0 he rfl 8 (by decide) (X.2.2.2.2.1 _ q639) (fun _ h => h) hv hdg kk
theorem gf_RX5_32 (X : Cx p s m args meth c cc nL RX5 rt0) (hK : KK E A s s.heap) (hP : va_P E.1 classes ws H) (q0 : Nat) (he : ws[q0]? = some (a, .inr (5, fs))) (hv : fs[14]? = some v) (hdg : decode cc pc = .ok (.getfield 32, 3)) (kk : W p l e R s m args below meth c H locs cells slots Q (F0 m (pc + 3) ls (v :: rest))) : W p l e R s m args below meth c H locs cells slots Q (F0 m pc ls (.ref a :: rest)) := va_get (C := RX5) (T := TX5) (N := 17) X.1 X.2.1 X.2.2.2.2.1 inX5 X.2.2.2.1 hK.1 hP q0 he rfl 14 (by decide) (X.2.2.2.2.1 _ q645) (fun _ h => h) hv hdg kk
theorem pf_RX5_32 (X : Cx p s m args meth c cc nL RX5 rt0) (hK : KK E A s s.heap) (hP : va_P E.1 classes ws H) (hD : va_D A ws) (hS : va_S A s.heap H locs) (q0 : Nat) (he : ws[q0]? = some (a, .inr (5, fs))) (hl : fs.length = 17) (hdg : decode cc pc = .ok (.putfield 32, 3)) (kk : ∀ (H1 : Heap) (locs1 : List Loc), va_P E.1 classes (ws.set q0 (a, .inr (5, fs.set 14 (.int x)))) H1 → va_D A (ws.set q0 (a, .inr (5, fs.set 14 (.int x)))) → va_S A s.heap H1 locs1 → W p l e R s m args below meth c H1 locs1 cells slots Q (F0 m (pc + 3) ls rest)) : W p l e R s m args below meth c H locs cells slots Q (F0 m pc ls (.int x :: .ref a :: rest)) := va_put (C := RX5) (T := TX5) (N := 17) (ty := .int) X.1 X.2.1 X.2.2.2.2.1 inX5 tyX5 tyX5_ok nmX5 X.2.2.2.1 hK.1 hP hD hS q0 he rfl 14 (by decide) (X.2.2.2.2.1 _ q645) (fun _ h => h) rfl (by decide +kernel) rfl rfl (by rw [hl]; decide) hdg kk
theorem gf_RX5_36 (X : Cx p s m args meth c cc nL RX5 rt0) (hK : KK E A s s.heap) (hP : va_P E.1 classes ws H) (q0 : Nat) (he : ws[q0]? = some (a, .inr (5, fs))) (hv : fs[15]? = some v) (hdg : decode cc pc = .ok (.getfield 36, 3)) (kk : W p l e R s m args below meth c H locs cells slots Q (F0 m (pc + 3) ls (v :: rest))) : W p l e R s m args below meth c H locs cells slots Q (F0 m pc ls (.ref a :: rest)) := va_get (C := RX5) (T := TX5) (N := 17) X.1 X.2.1 X.2.2.2.2.1 inX5 X.2.2.2.1 hK.1 hP q0 he rfl 15 (by decide) (X.2.2.2.2.1 _ q646) (fun _ h => h) hv hdg kk
theorem gf_RX5_39 (X : Cx p s m args meth c cc nL RX5 rt0) (hK : KK E A s s.heap) (hP : va_P E.1 classes ws H) (q0 : Nat) (he : ws[q0]? = some (a, .inr (5, fs))) (hv : fs[16]? = some v) (hdg : decode cc pc = .ok (.getfield 39, 3)) (kk : W p l e R s m args below meth c H locs cells slots Q (F0 m (pc + 3) ls (v :: rest))) : W p l e R s m args below meth c H locs cells slots Q (F0 m pc ls (.ref a :: rest)) := va_get (C := RX5) (T := TX5) (N := 17) X.1 X.2.1 X.2.2.2.2.1 inX5 X.2.2.2.1 hK.1 hP q0 he rfl 16 (by decide) (X.2.2.2.2.1 _ q647) (fun _ h => h) hv hdg kk
theorem gf_RX5_53 (X : Cx p s m args meth c cc nL RX5 rt0) (hK : KK E A s s.heap) (hP : va_P E.1 classes ws H) (q0 : Nat) (he : ws[q0]? = some (a, .inr (5, fs))) (hv : fs[2]? = some v) (hdg : decode cc pc = .ok (.getfield 53, 3)) (kk : W p l e R s m args below meth c H locs cells slots Q (F0 m (pc + 3) ls (v :: rest))) : W p l e R s m args below meth c H locs cells slots Q (F0 m pc ls (.ref a :: rest)) := va_get (C := RX5) (T := TX5) (N := 17) X.1 X.2.1 X.2.2.2.2.1 inX5 X.2.2.2.1 hK.1 hP q0 he rfl 2 (by decide) (X.2.2.2.2.1 _ q633) (fun _ h => h) hv hdg kk
theorem pf_RX5_53 (X : Cx p s m args meth c cc nL RX5 rt0) (hK : KK E A s s.heap) (hP : va_P E.1 classes ws H) (hD : va_D A ws) (hS : va_S A s.heap H locs) (q0 : Nat) (he : ws[q0]? = some (a, .inr (5, fs))) (hl : fs.length = 17) (hdg : decode cc pc = .ok (.putfield 53, 3)) (kk : ∀ (H1 : Heap) (locs1 : List Loc), va_P E.1 classes (ws.set q0 (a, .inr (5, fs.set 2 (.int x)))) H1 → va_D A (ws.set q0 (a, .inr (5, fs.set 2 (.int x)))) → va_S A s.heap H1 locs1 → W p l e R s m args below meth c H1 locs1 cells slots Q (F0 m (pc + 3) ls rest)) : W p l e R s m args below meth c H locs cells slots Q (F0 m pc ls (.int x :: .ref a :: rest)) := va_put (C := RX5) (T := TX5) (N := 17) (ty := .int) X.1 X.2.1 X.2.2.2.2.1 inX5 tyX5 tyX5_ok nmX5 X.2.2.2.1 hK.1 hP hD hS q0 he rfl 2 (by decide) (X.2.2.2.2.1 _ q633) (fun _ h => h) rfl (by decide +kernel) rfl rfl (by rw [hl]; decide) hdg kk
theorem gf_RX5_56 (X : Cx p s m args meth c cc nL RX5 rt0) (hK : KK E A s s.heap) (hP : va_P E.1 classes ws H) (q0 : Nat) (he : ws[q0]? = some (a, .inr (5, fs))) (hv : fs[10]? = some v) (hdg : decode cc pc = .ok (.getfield 56, 3)) (kk : W p l e R s m args below meth c H locs cells slots Q (F0 m (pc + 3) ls (v :: rest))) : W p l e R s m args below meth c H locs cells slots Q (F0 m pc ls (.ref a :: rest)) := va_get (C := RX5) (T := TX5) (N := 17) X.1 X.2.1 X.2.2.2.2.1 inX5 X.2.2.2.1 hK.1 hP q0 he rfl 10 (by decide) (X.2.2.2.2.1 _ q641) (fun _ h => h) hv hdg kk
theorem pf_RX5_56 (X : Cx p s m args meth c cc nL RX5 rt0) (hK : KK E A s s.heap) (hP : va_P E.1 classes ws H) (hD : va_D A ws) (hS : va_S A s.heap H locs) (q0 : Nat) (he : ws[q0]? = some (a, .inr (5, fs))) (hl : fs.length = 17) (hdg : decode cc pc = .ok (.putfield 56, 3)) (kk : ∀ (H1 : Heap) (locs1 : List Loc), va_P E.1 classes (ws.set q0 (a, .inr (5, fs.set 10 (.int x)))) H1 → va_D A (ws.set q0 (a, .inr (5, fs.set 10 (.int x)))) → va_S A s.heap H1 locs1 → W p l e R s m args below meth c H1 locs1 cells slots Q (F0 m (pc + 3) ls rest)) : W p l e R s m args below meth c H locs cells slots Q (F0 m pc ls (.int x :: .ref a :: rest)) := va_put (C := RX5) (T := TX5) (N := 17) (ty := .int) X.1 X.2.1 X.2.2.2.2.1 inX5 tyX5 tyX5_ok nmX5 X.2.2.2.1 hK.1 hP hD hS q0 he rfl 10 (by decide) (X.2.2.2.2.1 _ q641) (fun _ h => h) rfl (by decide +kernel) rfl rfl (by rw [hl]; decide) hdg kk
theorem gf_RX5_63 (X : Cx p s m args meth c cc nL RX5 rt0) (hK : KK E A s s.heap) (hP : va_P E.1 classes ws H) (q0 : Nat) (he : ws[q0]? = some (a, .inr (5, fs))) (hv : fs[12]? = some v) (hdg : decode cc pc = .ok (.getfield 63, 3)) (kk : W p l e R s m args below meth c H locs cells slots Q (F0 m (pc + 3) ls (v :: rest))) : W p l e R s m args below meth c H locs cells slots Q (F0 m pc ls (.ref a :: rest)) := va_get (C := RX5) (T := TX5) (N := 17) X.1 X.2.1 X.2.2.2.2.1 inX5 X.2.2.2.1 hK.1 hP q0 he rfl 12 (by decide) (X.2.2.2.2.1 _ q643) (fun _ h => h) hv hdg kk
theorem pf_RX5_63 (X : Cx p s m args meth c cc nL RX5 rt0) (hK : KK E A s s.heap) (hP : va_P E.1 classes ws H) (hD : va_D A ws) (hS : va_S A s.heap H locs) (q0 : Nat) (he : ws[q0]? = some (a, .inr (5, fs))) (hl : fs.length = 17) (hdg : decode cc pc = .ok (.putfield 63, 3)) (kk : ∀ (H1 : Heap) (locs1 : List Loc), va_P E.1 classes (ws.set q0 (a, .inr (5, fs.set 12 (.int x)))) H1 → va_D A (ws.set q0 (a, .inr (5, fs.set 12 (.int x)))) → va_S A s.heap H1 locs1 → W p l e R s m args below meth c H1 locs1 cells slots Q (F0 m (pc + 3) ls rest)) : W p l e R s m args below meth c H locs cells slots Q (F0 m pc ls (.int x :: .ref a :: rest)) := va_put (C := RX5) (T := TX5) (N := 17) (ty := .int) X.1 X.2.1 X.2.2.2.2.1 inX5 tyX5 tyX5_ok nmX5 X.2.2.2.1 hK.1 hP hD hS q0 he rfl 12 (by decide) (X.2.2.2.2.1 _ q643) (fun _ h => h) rfl (by decide +kernel) rfl rfl (by rw [hl]; decide) hdg kk
theorem gf_RX5_73 (X : Cx p s m args meth c cc nL RX5 rt0) (hK : KK E A s s.heap) (hP : va_P E.1 classes ws H) (q0 : Nat) (he : ws[q0]? = some (a, .inr (5, fs))) (hv : fs[11]? = some v) (hdg : decode cc pc = .ok (.getfield 73, 3)) (kk : W p l e R s m args below meth c H locs cells slots Q (F0 m (pc + 3) ls (v :: rest))) : W p l e R s m args below meth c H locs cells slots Q (F0 m pc ls (.ref a :: rest)) := va_get (C := RX5) (T := TX5) (N := 17) X.1 X.2.1 X.2.2.2.2.1 inX5 X.2.2.2.1 hK.1 hP q0 he rfl 11 (by decide) (X.2.2.2.2.1 _ q642) (fun _ h => h) hv hdg kk
theorem pf_RX5_73 (X : Cx p s m args meth c cc nL RX5 rt0) (hK : KK E A s s.heap) (hP : va_P E.1 classes ws H) (hD : va_D A ws) (hS : va_S A s.heap H locs) (q0 : Nat) (he : ws[q0]? = some (a, .inr (5, fs))) (hl : fs.length = 17) (hdg : decode cc pc = .ok (.putfield 73, 3)) (kk : ∀ (H1 : Heap) (locs1 : List Loc), va_P E.1 classes (ws.set q0 (a, .inr (5, fs.set 11 (.int x)))) H1 → va_D A (ws.set q0 (a, .inr (5, fs.set 11 (.int x)))) → va_S A s.heap H1 locs1 → W p l e R s m args below meth c H1 locs1 cells slots Q (F0 m (pc + 3) ls rest)) : W p l e R s m args below meth c H locs cells slots Q (F0 m pc ls (.int x :: .ref a :: rest)) := va_put (C := RX5) (T := TX5) (N := 17) (ty := .int) X.1 X.2.1 X.2.2.2.2.1 inX5 tyX5 tyX5_ok nmX5 X.2.2.2.1 hK.1 hP hD hS q0 he rfl 11 (by decide) (X.2.2.2.2.1 _ q642) (fun _ h => h) rfl (by decide +kernel) rfl rfl (by rw [hl]; decide) hdg kk
theorem gf_RX5_76 (X : Cx p s m args meth c cc nL RX5 rt0) (hK : KK E A s s.heap) (hP : va_P E.1 classes ws H) (q0 : Nat) (he : ws[q0]? = some (a, .inr (5, fs))) (hv : fs[13]? = some v) (hdg : decode cc pc = .ok (.getfield 76, 3)) (kk : W p l e R s m args below meth c H locs cells slots Q (F0 m (pc + 3) ls (v :: rest))) : W p l e R s m args below meth c H locs cells slots Q (F0 m pc ls (.ref a :: rest)) := va_get (C := RX5) (T := TX5) (N := 17) X.1 X.2.1 X.2.2.2.2.1 inX5 X.2.2.2.1 hK.1 hP q0 he rfl 13 (by decide) (X.2.2.2.2.1 _ q644) (fun _ h => h) hv hdg kk
theorem pf_RX5_76 (X : Cx p s m args meth c cc nL RX5 rt0) (hK : KK E A s s.heap) (hP : va_P E.1 classes ws H) (hD : va_D A ws) (hS : va_S A s.heap H locs) (q0 : Nat) (he : ws[q0]? = some (a, .inr (5, fs))) (hl : fs.length = 17) (hdg : decode cc pc = .ok (.putfield 76, 3)) (kk : ∀ (H1 : Heap) (locs1 : List Loc), va_P E.1 classes (ws.set q0 (a, .inr (5, fs.set 13 (.int x)))) H1 → va_D A (ws.set q0 (a, .inr (5, fs.set 13 (.int x)))) → va_S A s.heap H1 locs1 → W p l e R s m args below meth c H1 locs1 cells slots Q (F0 m (pc + 3) ls rest)) : W p l e R s m args below meth c H locs cells slots Q (F0 m pc ls (.int x :: .ref a :: rest)) := va_put (C := RX5) (T := TX5) (N := 17) (ty := .int) X.1 X.2.1 X.2.2.2.2.1 inX5 tyX5 tyX5_ok nmX5 X.2.2.2.1 hK.1 hP hD hS q0 he rfl 13 (by decide) (X.2.2.2.2.1 _ q644) (fun _ h => h) rfl (by decide +kernel) rfl rfl (by rw [hl]; decide) hdg kk
theorem gf_RX5_88 (X : Cx p s m args meth c cc nL RX5 rt0) (hK : KK E A s s.heap) (hP : va_P E.1 classes ws H) (q0 : Nat) (he : ws[q0]? = some (a, .inr (5, fs))) (hv : fs[9]? = some v) (hdg : decode cc pc = .ok (.getfield 88, 3)) (kk : W p l e R s m args below meth c H locs cells slots Q (F0 m (pc + 3) ls (v :: rest))) : W p l e R s m args below meth c H locs cells slots Q (F0 m pc ls (.ref a :: rest)) := va_get (C := RX5) (T := TX5) (N := 17) X.1 X.2.1 X.2.2.2.2.1 inX5 X.2.2.2.1 hK.1 hP q0 he rfl 9 (by decide) (X.2.2.2.2.1 _ q640) (fun _ h => h) hv hdg kk
theorem pf_RX5_88 (X : Cx p s m args meth c cc nL RX5 rt0) (hK : KK E A s s.heap) (hP : va_P E.1 classes ws H) (hD : va_D A ws) (hS : va_S A s.heap H locs) (q0 : Nat) (he : ws[q0]? = some (a, .inr (5, fs))) (hl : fs.length = 17) (hdg : decode cc pc = .ok (.putfield 88, 3)) (kk : ∀ (H1 : Heap) (locs1 : List Loc), va_P E.1 classes (ws.set q0 (a, .inr (5, fs.set 9 (.int x)))) H1 → va_D A (ws.set q0 (a, .inr (5, fs.set 9 (.int x)))) → va_S A s.heap H1 locs1 → W p l e R s m args below meth c H1 locs1 cells slots Q (F0 m (pc + 3) ls rest)) : W p l e R s m args below meth c H locs cells slots Q (F0 m pc ls (.int x :: .ref a :: rest)) := va_put (C := RX5) (T := TX5) (N := 17) (ty := .int) X.1 X.2.1 X.2.2.2.2.1 inX5 tyX5 tyX5_ok nmX5 X.2.2.2.1 hK.1 hP hD hS q0 he rfl 9 (by decide) (X.2.2.2.2.1 _ q640) (fun _ h => h) rfl (by decide +kernel) rfl rfl (by rw [hl]; decide) hdg kk
theorem gf_RX5_147 (X : Cx p s m args meth c cc nL RX5 rt0) (hK : KK E A s s.heap) (hP : va_P E.1 classes ws H) (q0 : Nat) (he : ws[q0]? = some (a, .inr (5, fs))) (hv : fs[0]? = some v) (hdg : decode cc pc = .ok (.getfield 147, 3)) (kk : W p l e R s m args below meth c H locs cells slots Q (F0 m (pc + 3) ls (v :: rest))) : W p l e R s m args below meth c H locs cells slots Q (F0 m pc ls (.ref a :: rest)) := va_get (C := RX5) (T := TX5) (N := 17) X.1 X.2.1 X.2.2.2.2.1 inX5 X.2.2.2.1 hK.1 hP q0 he rfl 0 (by decide) (X.2.2.2.2.1 _ q631) (fun _ h => h) hv hdg kk
theorem pf_RX5_147 {y : Int64} (X : Cx p s m args meth c cc nL RX5 rt0) (hK : KK E A s s.heap) (hP : va_P E.1 classes ws H) (hD : va_D A ws) (hS : va_S A s.heap H locs) (q0 : Nat) (he : ws[q0]? = some (a, .inr (5, fs))) (hl : fs.length = 17) (hdg : decode cc pc = .ok (.putfield 147, 3)) (kk : ∀ (H1 : Heap) (locs1 : List Loc), va_P E.1 classes (ws.set q0 (a, .inr (5, fs.set 0 (.long y)))) H1 → va_D A (ws.set q0 (a, .inr (5, fs.set 0 (.long y)))) → va_S A s.heap H1 locs1 → W p l e R s m args below meth c H1 locs1 cells slots Q (F0 m (pc + 3) ls rest)) : W p l e R s m args below meth c H locs cells slots Q (F0 m pc ls (.long y :: .ref a :: rest)) := va_put (C := RX5) (T := TX5) (N := 17) (ty := .long) X.1 X.2.1 X.2.2.2.2.1 inX5 tyX5 tyX5_ok nmX5 X.2.2.2.1 hK.1 hP hD hS q0 he rfl 0 (by decide) (X.2.2.2.2.1 _ q631) (fun _ h => h) rfl (by decide +kernel) rfl rfl (by rw [hl]; decide) hdg kk
end LK
theorem kRX4_56 : lkV RX4 56 yX2_add cX2_add 2 (some .boolean) 1 := ⟨q196, q197, q198, q49, q199, by decide +kernel, by decide +kernel, by decide +kernel⟩
theorem kRX4_60 : lkV RX4 60 yX2_length cX2_length 1 (some .int) 0 := ⟨q200, q201, q202, q49, q203, by decide +kernel, by decide +kernel, by decide +kernel⟩
theorem kRX4_64 : lkV RX4 64 yX2_empty cX2_empty 1 none 0 := ⟨q208, q209, q210, q49, q211, by decide +kernel, by decide +kernel, by decide +kernel⟩
theorem kRX4_67 : lkV RX4 67 yX2_read cX2_read 3 (some .int) 1 := ⟨q216, q217, q218, q49, q219, by decide +kernel, by decide +kernel, by decide +kernel⟩
theorem kRX4_71 : lkV RX4 71 yX0_begin cX0_begin 2 none 0 := ⟨q295, q117, q118, q51, q119, by decide +kernel, by decide +kernel, by decide +kernel⟩
theorem kRX4_81 : lkV RX4 81 yX3_hasOven cX3_hasOven 2 (some .boolean) 1 := ⟨q300, q301, q302, q50, q303, by decide +kernel, by decide +kernel, by decide +kernel⟩
theorem kRX4_85 : lkV RX4 85 yX3_ofOven cX3_ofOven 4 (some .int) 2 := ⟨q305, q306, q307, q50, q308, by decide +kernel, by decide +kernel, by decide +kernel⟩
theorem kRX4_89 : lkV RX4 89 yX0_placedAt cX0_placedAt 5 (some .int) 2 := ⟨q310, q311, q312, q51, q313, by decide +kernel, by decide +kernel, by decide +kernel⟩
theorem kRX4_93 : lkV RX4 93 yX0_hot cX0_hot 4 (some .int) 2 := ⟨q326, q327, q328, q51, q329, by decide +kernel, by decide +kernel, by decide +kernel⟩
theorem kRX4_96 : lkV RX4 96 yX0_isShut cX0_isShut 2 (some .boolean) 1 := ⟨q338, q339, q340, q51, q341, by decide +kernel, by decide +kernel, by decide +kernel⟩
theorem kRX4_99 : lkV RX4 99 yX3_hasDough cX3_hasDough 2 (some .boolean) 1 := ⟨q350, q284, q285, q50, q286, by decide +kernel, by decide +kernel, by decide +kernel⟩
theorem kRX4_102 : lkV RX4 102 yX3_ofDough cX3_ofDough 4 (some .int) 2 := ⟨q351, q280, q281, q50, q282, by decide +kernel, by decide +kernel, by decide +kernel⟩
theorem kRX4_105 : lkV RX4 105 yX0_place cX0_place 2 (some .int) 1 := ⟨q352, q316, q317, q51, q318, by decide +kernel, by decide +kernel, by decide +kernel⟩
theorem kRX4_109 : lkV RX4 109 yX0_baked cX0_baked 2 (some .int) 1 := ⟨q353, q354, q355, q51, q356, by decide +kernel, by decide +kernel, by decide +kernel⟩
theorem kRX4_112 : lkV RX4 112 yX4_isOut cX4_isOut 2 (some .boolean) 1 := ⟨q357, q359, q8, q48, q360, by decide +kernel, by decide +kernel, by decide +kernel⟩
theorem kRX4_115 : lkV RX4 115 yX4_noseOf cX4_noseOf 7 (some .int) 2 := ⟨q361, q363, q9, q48, q364, by decide +kernel, by decide +kernel, by decide +kernel⟩
theorem kRX4_118 : lkV RX4 118 yX4_smellOf cX4_smellOf 6 (some .int) 3 := ⟨q369, q371, q10, q48, q372, by decide +kernel, by decide +kernel, by decide +kernel⟩
theorem kRX4_122 : lkV RX4 122 yX4_mayGoIn cX4_mayGoIn 3 (some .boolean) 1 := ⟨q386, q388, q12, q48, q389, by decide +kernel, by decide +kernel, by decide +kernel⟩
theorem kRX4_125 : lkV RX4 125 yX0_remember cX0_remember 1 none 0 := ⟨q394, q395, q396, q51, q397, by decide +kernel, by decide +kernel, by decide +kernel⟩
theorem kRX4_128 : lkV RX4 128 yX0_putIn cX0_putIn 3 none 2 := ⟨q401, q402, q403, q51, q404, by decide +kernel, by decide +kernel, by decide +kernel⟩
theorem kRX4_132 : lkS RX4 132 yJ6_bitCount_0f7a4 cJ6_bitCount_0f7a4 1 (some .int) 1 := ⟨q409, q332, q55, q333, by decide +kernel, by decide +kernel, by decide +kernel⟩
theorem kRX4_137 : lkV RX4 137 yX0_minute cX0_minute 1 (some .int) 0 := ⟨q390, q391, q392, q51, q393, by decide +kernel, by decide +kernel, by decide +kernel⟩
theorem kRX4_140 : lkV RX4 140 yX0_passMinute cX0_passMinute 3 none 1 := ⟨q414, q415, q416, q51, q417, by decide +kernel, by decide +kernel, by decide +kernel⟩
theorem kRX4_144 : lkV RX4 144 yX0_turnDoor cX0_turnDoor 2 none 1 := ⟨q426, q427, q428, q51, q429, by decide +kernel, by decide +kernel, by decide +kernel⟩
theorem kRX4_148 : lkV RX4 148 yX0_shutBits cX0_shutBits 1 (some .int) 0 := ⟨q430, q343, q344, q51, q345, by decide +kernel, by decide +kernel, by decide +kernel⟩
theorem kRX4_151 : lkV RX4 151 yX0_takeBack cX0_takeBack 1 (some .boolean) 0 := ⟨q435, q436, q437, q51, q438, by decide +kernel, by decide +kernel, by decide +kernel⟩
theorem kRX4_155 : lkV RX4 155 yX0_known cX0_known 1 (some .int) 0 := ⟨q439, q440, q441, q51, q442, by decide +kernel, by decide +kernel, by decide +kernel⟩
theorem kRX4_158 : lkV RX4 158 yX4_outAndGoneSour cX4_outAndGoneSour 3 (some .int) 0 := ⟨q447, q449, q13, q48, q450, by decide +kernel, by decide +kernel, by decide +kernel⟩
theorem kRX4_161 : lkV RX4 161 yX0_copyNow cX0_copyNow 2 none 1 := ⟨q455, q456, q457, q51, q458, by decide +kernel, by decide +kernel, by decide +kernel⟩
theorem kRX4_165 : lkV RX4 165 yX3_doughs cX3_doughs 1 (some .int) 0 := ⟨q373, q276, q277, q50, q278, by decide +kernel, by decide +kernel, by decide +kernel⟩
theorem kRX4_168 : lkV RX4 168 yX1_find cX1_find 7 none 4 := ⟨q467, q468, q469, q52, q470, by decide +kernel, by decide +kernel, by decide +kernel⟩
theorem kRX4_172 : lkV RX4 172 yX1_bestCount cX1_bestCount 1 (some .int) 0 := ⟨q491, q492, q493, q52, q494, by decide +kernel, by decide +kernel, by decide +kernel⟩
theorem kRX4_175 : lkV RX4 175 yX1_bestEnd cX1_bestEnd 1 (some .int) 0 := ⟨q495, q496, q497, q52, q498, by decide +kernel, by decide +kernel, by decide +kernel⟩
theorem kRX4_178 : lkV RX4 178 yX1_bestAt cX1_bestAt 2 (some .int) 1 := ⟨q499, q500, q501, q52, q502, by decide +kernel, by decide +kernel, by decide +kernel⟩
theorem kRX4_181 : lkS RX4 181 yX4_dividedUp cX4_dividedUp 2 (some .int) 2 := ⟨q507, q476, q48, q477, by decide +kernel, by decide +kernel, by decide +kernel⟩
theorem kRX4_184 : lkV RX4 184 yX4_rivalsOf cX4_rivalsOf 7 (some .int) 2 := ⟨q512, q514, q16, q48, q515, by decide +kernel, by decide +kernel, by decide +kernel⟩
theorem kRX4_187 : lkS RX4 187 yX4_commonDivisor cX4_commonDivisor 6 (some .int) 2 := ⟨q516, q517, q48, q518, by decide +kernel, by decide +kernel, by decide +kernel⟩
theorem kRX4_190 : lkV RX4 190 yX4_allLedWith cX4_allLedWith 4 (some .boolean) 1 := ⟨q531, q533, q17, q48, q534, by decide +kernel, by decide +kernel, by decide +kernel⟩
theorem kRX4_193 : lkV RX4 193 yX3_ovens cX3_ovens 1 (some .int) 0 := ⟨q365, q366, q367, q50, q368, by decide +kernel, by decide +kernel, by decide +kernel⟩
theorem kRX4_196 : lkV RX4 196 yX4_asDough cX4_asDough 2 (some .int) 1 := ⟨q539, q541, q18, q48, q542, by decide +kernel, by decide +kernel, by decide +kernel⟩
theorem kRX4_199 : lkV RX4 199 yX4_asCake cX4_asCake 2 (some .int) 1 := ⟨q543, q545, q19, q48, q546, by decide +kernel, by decide +kernel, by decide +kernel⟩
theorem kRX4_202 : lkV RX4 202 yX4_asHerring cX4_asHerring 2 (some .int) 1 := ⟨q548, q550, q20, q48, q551, by decide +kernel, by decide +kernel, by decide +kernel⟩
theorem kRX4_205 : lkV RX4 205 yX4_asBride cX4_asBride 2 (some .int) 1 := ⟨q553, q555, q21, q48, q556, by decide +kernel, by decide +kernel, by decide +kernel⟩
theorem kRX4_208 : lkV RX4 208 yX4_asWidow cX4_asWidow 2 (some .int) 1 := ⟨q558, q560, q22, q48, q561, by decide +kernel, by decide +kernel, by decide +kernel⟩
theorem kRX4_211 : lkV RX4 211 yX4_asSniff cX4_asSniff 2 (some .int) 1 := ⟨q563, q565, q23, q48, q566, by decide +kernel, by decide +kernel, by decide +kernel⟩
theorem kRX4_214 : lkV RX4 214 yX4_imageCourse cX4_imageCourse 2 (some (.object "OvenNoses$Course")) 1 := ⟨q572, q574, q24, q48, q575, by decide +kernel, by decide +kernel, by decide +kernel⟩
theorem kRX4_218 : lkV RX4 218 yX0_copyAll cX0_copyAll 2 none 1 := ⟨q576, q577, q578, q51, q579, by decide +kernel, by decide +kernel, by decide +kernel⟩
theorem kRX4_225 : lkV RX4 225 yX4_liking cX4_liking 6 (some .int) 3 := ⟨q374, q376, q11, q48, q377, by decide +kernel, by decide +kernel, by decide +kernel⟩
theorem kRX0_15 : lkV RX0 15 yX0_begin cX0_begin 2 none 0 := ⟨q116, q117, q118, q51, q119, by decide +kernel, by decide +kernel, by decide +kernel⟩
theorem kRX0_28 : lkV RX0 28 yX0_base cX0_base 1 (some .int) 0 := ⟨q322, q324, q7, q51, q325, by decide +kernel, by decide +kernel, by decide +kernel⟩
theorem kRX0_32 : lkV RX0 32 yX0_shutBits cX0_shutBits 1 (some .int) 0 := ⟨q342, q343, q344, q51, q345, by decide +kernel, by decide +kernel, by decide +kernel⟩
theorem kRX0_35 : lkS RX0 35 yX0_isPlace cX0_isPlace 1 (some .boolean) 1 := ⟨q319, q320, q51, q321, by decide +kernel, by decide +kernel, by decide +kernel⟩
theorem kRX0_39 : lkV RX0 39 yX3_doughs cX3_doughs 1 (some .int) 0 := ⟨q314, q276, q277, q50, q278, by decide +kernel, by decide +kernel, by decide +kernel⟩
theorem kRX0_44 : lkV RX0 44 yX0_place cX0_place 2 (some .int) 1 := ⟨q315, q316, q317, q51, q318, by decide +kernel, by decide +kernel, by decide +kernel⟩
theorem kRX0_48 : lkV RX0 48 yX0_placedAt cX0_placedAt 5 (some .int) 2 := ⟨q330, q311, q312, q51, q313, by decide +kernel, by decide +kernel, by decide +kernel⟩
theorem kRX0_52 : lkS RX0 52 yJ6_bitCount_0f7a4 cJ6_bitCount_0f7a4 1 (some .int) 1 := ⟨q331, q332, q55, q333, by decide +kernel, by decide +kernel, by decide +kernel⟩
theorem kRX0_57 : lkV RX0 57 yX3_ofOven cX3_ofOven 4 (some .int) 2 := ⟨q337, q306, q307, q50, q308, by decide +kernel, by decide +kernel, by decide +kernel⟩
theorem kRX0_61 : lkV RX0 61 yX3_hasOven cX3_hasOven 2 (some .boolean) 1 := ⟨q418, q301, q302, q50, q303, by decide +kernel, by decide +kernel, by decide +kernel⟩
theorem kRX0_64 : lkV RX0 64 yX0_hot cX0_hot 4 (some .int) 2 := ⟨q419, q327, q328, q51, q329, by decide +kernel, by decide +kernel, by decide +kernel⟩
theorem kRX0_67 : lkV RX0 67 yX0_baked cX0_baked 2 (some .int) 1 := ⟨q420, q354, q355, q51, q356, by decide +kernel, by decide +kernel, by decide +kernel⟩
theorem kRX0_70 : lkV RX0 70 yX3_ofDough cX3_ofDough 4 (some .int) 2 := ⟨q421, q280, q281, q50, q282, by decide +kernel, by decide +kernel, by decide +kernel⟩
theorem kRX1_25 : lkV RX1 25 yX0_minute cX0_minute 1 (some .int) 0 := ⟨q471, q391, q392, q51, q393, by decide +kernel, by decide +kernel, by decide +kernel⟩
theorem kRX1_37 : lkV RX1 37 yX3_ofOven cX3_ofOven 4 (some .int) 2 := ⟨q472, q306, q307, q50, q308, by decide +kernel, by decide +kernel, by decide +kernel⟩
theorem kRX1_43 : lkV RX1 43 yX3_doughs cX3_doughs 1 (some .int) 0 := ⟨q473, q276, q277, q50, q278, by decide +kernel, by decide +kernel, by decide +kernel⟩
theorem kRX1_46 : lkV RX1 46 yX3_ofDough cX3_ofDough 4 (some .int) 2 := ⟨q474, q280, q281, q50, q282, by decide +kernel, by decide +kernel, by decide +kernel⟩
theorem kRX1_49 : Cond.static yX4_dividedUp ∈ GG ∧ Cond.initialized yX4_dividedUp.cls ∈ GG ∧ Cond.code yX4_dividedUp cX4_dividedUp 2 (some .int) ∈ GG ∧ yX4_dividedUp.cls ≠ "java/lang/invoke/MethodHandle" ∧ yX4_dividedUp.cls ≠ "java/lang/invoke/VarHandle" ∧ (parseMethodDescriptor yX4_dividedUp.desc).map (fun d => d.parameters.length) = some 2 := ⟨q476, q48, q477, by decide +kernel, by decide +kernel, by decide +kernel⟩
theorem kRX1_52 : lkV RX1 52 yX0_placedAt cX0_placedAt 5 (some .int) 2 := ⟨q478, q311, q312, q51, q313, by decide +kernel, by decide +kernel, by decide +kernel⟩
theorem kRX1_56 : lkV RX1 56 yX1_extend cX1_extend 8 none 4 := ⟨q479, q481, q14, q52, q482, by decide +kernel, by decide +kernel, by decide +kernel⟩
theorem kRX1_60 : lkV RX1 60 yX1_weigh cX1_weigh 3 none 2 := ⟨q483, q485, q15, q52, q486, by decide +kernel, by decide +kernel, by decide +kernel⟩
theorem kRX1_64 : lkS RX1 64 yJ9_max_7cf53 cJ9_max_7cf53 2 (some .int) 2 := ⟨q488, q489, q54, q490, by decide +kernel, by decide +kernel, by decide +kernel⟩
theorem kRX2_22 : lkV RX2 22 yX3_forgetAll cX3_forgetAll 1 none 0 := ⟨q220, q221, q222, q50, q223, by decide +kernel, by decide +kernel, by decide +kernel⟩
theorem kRX2_27 : lkV RX2 27 yX2_nextToken cX2_nextToken 1 none 0 := ⟨q224, q226, q0, q49, q227, by decide +kernel, by decide +kernel, by decide +kernel⟩
theorem kRX2_33 : lkV RX2 33 yX2_readItem cX2_readItem 3 (some .boolean) 1 := ⟨q245, q247, q3, q49, q248, by decide +kernel, by decide +kernel, by decide +kernel⟩
theorem kRX2_43 : lkV RX2 43 yX3_addOven cX3_addOven 1 (some .boolean) 0 := ⟨q249, q250, q251, q50, q252, by decide +kernel, by decide +kernel, by decide +kernel⟩
theorem kRX2_47 : lkV RX2 47 yX2_readOvenNumbers cX2_readOvenNumbers 3 (some .boolean) 1 := ⟨q253, q255, q4, q49, q256, by decide +kernel, by decide +kernel, by decide +kernel⟩
theorem kRX2_50 : lkV RX2 50 yX3_addDough cX3_addDough 1 (some .boolean) 0 := ⟨q267, q268, q269, q50, q270, by decide +kernel, by decide +kernel, by decide +kernel⟩
theorem kRX2_53 : lkV RX2 53 yX2_readDoughNumbers cX2_readDoughNumbers 4 (some .boolean) 1 := ⟨q271, q273, q6, q49, q274, by decide +kernel, by decide +kernel, by decide +kernel⟩
theorem kRX2_59 : lkV RX2 59 yX2_isNumberWithin cX2_isNumberWithin 3 (some .boolean) 2 := ⟨q259, q261, q5, q49, q262, by decide +kernel, by decide +kernel, by decide +kernel⟩
theorem kRX2_63 : lkV RX2 63 yX3_setOfLastOven cX3_setOfLastOven 4 none 2 := ⟨q263, q264, q265, q50, q266, by decide +kernel, by decide +kernel, by decide +kernel⟩
theorem kRX2_67 : lkV RX2 67 yX3_doughs cX3_doughs 1 (some .int) 0 := ⟨q275, q276, q277, q50, q278, by decide +kernel, by decide +kernel, by decide +kernel⟩
theorem kRX2_71 : lkV RX2 71 yX3_ofDough cX3_ofDough 4 (some .int) 2 := ⟨q279, q280, q281, q50, q282, by decide +kernel, by decide +kernel, by decide +kernel⟩
theorem kRX2_81 : lkV RX2 81 yX3_setOfLastDough cX3_setOfLastDough 4 none 2 := ⟨q291, q292, q293, q50, q294, by decide +kernel, by decide +kernel, by decide +kernel⟩
theorem kRX2_84 : lkS RX2 84 yX2_isLetter cX2_isLetter 1 (some .boolean) 1 := ⟨q228, q229, q49, q230, by decide +kernel, by decide +kernel, by decide +kernel⟩
theorem kRX2_88 : lkV RX2 88 yX2_takeLetters cX2_takeLetters 1 none 0 := ⟨q231, q233, q1, q49, q234, by decide +kernel, by decide +kernel, by decide +kernel⟩
theorem kRX2_91 : lkS RX2 91 yX2_isDigit cX2_isDigit 1 (some .boolean) 1 := ⟨q235, q236, q49, q237, by decide +kernel, by decide +kernel, by decide +kernel⟩
theorem kRX2_94 : lkV RX2 94 yX2_takeNumber cX2_takeNumber 2 none 0 := ⟨q238, q240, q2, q49, q241, by decide +kernel, by decide +kernel, by decide +kernel⟩
theorem kRX2_97 : lkS RX2 97 yJ9_min_7cf53 cJ9_min_7cf53 2 (some .int) 2 := ⟨q242, q243, q54, q244, by decide +kernel, by decide +kernel, by decide +kernel⟩
theorem kRX3_25 : lkV RX3 25 yX3_hasOven cX3_hasOven 2 (some .boolean) 1 := ⟨q309, q301, q302, q50, q303, by decide +kernel, by decide +kernel, by decide +kernel⟩
theorem kRX3_29 : lkV RX3 29 yX3_hasDough cX3_hasDough 2 (some .boolean) 1 := ⟨q283, q284, q285, q50, q286, by decide +kernel, by decide +kernel, by decide +kernel⟩
theorem kRL_13 : lkV RL 13 yX4_type cX4_type 2 (some .int) 1 := ⟨q192, q193, q194, q48, q195, by decide +kernel, by decide +kernel, by decide +kernel⟩
theorem kRL_17 : lkV RL 17 yX5_type cX5_type 2 (some .int) 1 := ⟨q684, q685, q686, q53, q687, by decide +kernel, by decide +kernel, by decide +kernel⟩
theorem kRL_18 : lkV RL 18 yX4_clear cX4_clear 2 (some .int) 0 := ⟨q204, q205, q206, q48, q207, by decide +kernel, by decide +kernel, by decide +kernel⟩
theorem kRL_22 : lkV RL 22 yX5_clear cX5_clear 2 (some .int) 0 := ⟨q688, q689, q690, q53, q691, by decide +kernel, by decide +kernel, by decide +kernel⟩
theorem kRL_23 : lkV RL 23 yX4_quarter cX4_quarter 3 (some .int) 0 := ⟨q212, q213, q214, q48, q215, by decide +kernel, by decide +kernel, by decide +kernel⟩
theorem kRL_26 : lkV RL 26 yX5_quarter cX5_quarter 1 (some .int) 0 := ⟨q692, q693, q694, q53, q695, by decide +kernel, by decide +kernel, by decide +kernel⟩
theorem kRL_27 : lkV RL 27 yX4_oven cX4_oven 3 (some .int) 2 := ⟨q296, q297, q298, q48, q299, by decide +kernel, by decide +kernel, by decide +kernel⟩
theorem kRL_31 : lkV RL 31 yX5_oven cX5_oven 3 (some .int) 2 := ⟨q696, q697, q698, q53, q699, by decide +kernel, by decide +kernel, by decide +kernel⟩
theorem kRL_32 : lkV RL 32 yX4_dough cX4_dough 3 (some .int) 2 := ⟨q346, q347, q348, q48, q349, by decide +kernel, by decide +kernel, by decide +kernel⟩
theorem kRL_35 : lkV RL 35 yX5_dough cX5_dough 3 (some .int) 2 := ⟨q720, q721, q722, q53, q723, by decide +kernel, by decide +kernel, by decide +kernel⟩
theorem kRL_36 : lkV RL 36 yX4_smell cX4_smell 3 (some .int) 2 := ⟨q378, q379, q380, q48, q381, by decide +kernel, by decide +kernel, by decide +kernel⟩
theorem kRL_39 : lkV RL 39 yX5_smell cX5_smell 3 (some .int) 2 := ⟨q740, q741, q742, q53, q743, by decide +kernel, by decide +kernel, by decide +kernel⟩
theorem kRL_40 : lkV RL 40 yX4_follows cX4_follows 3 (some .int) 1 := ⟨q382, q383, q384, q48, q385, by decide +kernel, by decide +kernel, by decide +kernel⟩
theorem kRL_43 : lkV RL 43 yX5_follows cX5_follows 3 (some .int) 1 := ⟨q744, q745, q746, q53, q747, by decide +kernel, by decide +kernel, by decide +kernel⟩
theorem kRL_44 : lkV RL 44 yX4_puts cX4_puts 3 (some .int) 2 := ⟨q405, q406, q407, q48, q408, by decide +kernel, by decide +kernel, by decide +kernel⟩
theorem kRL_47 : lkV RL 47 yX5_puts cX5_puts 3 (some .int) 2 := ⟨q756, q757, q758, q53, q759, by decide +kernel, by decide +kernel, by decide +kernel⟩
theorem kRL_48 : lkV RL 48 yX4_minutes cX4_minutes 4 (some .int) 1 := ⟨q410, q411, q412, q48, q413, by decide +kernel, by decide +kernel, by decide +kernel⟩
theorem kRL_51 : lkV RL 51 yX5_minutes cX5_minutes 4 (some .int) 1 := ⟨q760, q761, q762, q53, q763, by decide +kernel, by decide +kernel, by decide +kernel⟩
theorem kRL_52 : lkV RL 52 yX4_shuts cX4_shuts 3 (some .int) 2 := ⟨q422, q423, q424, q48, q425, by decide +kernel, by decide +kernel, by decide +kernel⟩
theorem kRL_55 : lkV RL 55 yX5_shuts cX5_shuts 3 (some .int) 2 := ⟨q768, q769, q770, q53, q771, by decide +kernel, by decide +kernel, by decide +kernel⟩
theorem kRL_56 : lkV RL 56 yX4_undo cX4_undo 1 (some .int) 0 := ⟨q431, q432, q433, q48, q434, by decide +kernel, by decide +kernel, by decide +kernel⟩
theorem kRL_59 : lkV RL 59 yX5_undo cX5_undo 3 (some .int) 0 := ⟨q772, q773, q774, q53, q775, by decide +kernel, by decide +kernel, by decide +kernel⟩
theorem kRL_60 : lkV RL 60 yX4_now cX4_now 2 (some .int) 1 := ⟨q443, q444, q445, q48, q446, by decide +kernel, by decide +kernel, by decide +kernel⟩
theorem kRL_63 : lkV RL 63 yX5_now cX5_now 4 (some .int) 1 := ⟨q776, q777, q778, q53, q779, by decide +kernel, by decide +kernel, by decide +kernel⟩
theorem kRL_64 : lkV RL 64 yX4_when cX4_when 3 (some .int) 1 := ⟨q451, q452, q453, q48, q454, by decide +kernel, by decide +kernel, by decide +kernel⟩
theorem kRL_67 : lkV RL 67 yX5_when cX5_when 4 (some .int) 1 := ⟨q780, q781, q782, q53, q783, by decide +kernel, by decide +kernel, by decide +kernel⟩
theorem kRL_68 : lkV RL 68 yX4_moved cX4_moved 4 (some .int) 1 := ⟨q459, q460, q461, q48, q462, by decide +kernel, by decide +kernel, by decide +kernel⟩
theorem kRL_71 : lkV RL 71 yX5_moved cX5_moved 4 (some .int) 1 := ⟨q792, q793, q794, q53, q795, by decide +kernel, by decide +kernel, by decide +kernel⟩
theorem kRL_72 : lkV RL 72 yX4_order cX4_order 4 (some .int) 3 := ⟨q463, q464, q465, q48, q466, by decide +kernel, by decide +kernel, by decide +kernel⟩
theorem kRL_76 : lkV RL 76 yX5_order cX5_order 12 (some .int) 3 := ⟨q796, q797, q798, q53, q799, by decide +kernel, by decide +kernel, by decide +kernel⟩
theorem kRL_77 : lkV RL 77 yX4_fire cX4_fire 4 (some .int) 2 := ⟨q503, q504, q505, q48, q506, by decide +kernel, by decide +kernel, by decide +kernel⟩
theorem kRL_80 : lkV RL 80 yX5_fire cX5_fire 4 (some .int) 2 := ⟨q812, q813, q814, q53, q815, by decide +kernel, by decide +kernel, by decide +kernel⟩
theorem kRL_81 : lkV RL 81 yX4_odds cX4_odds 9 (some .int) 4 := ⟨q508, q509, q510, q48, q511, by decide +kernel, by decide +kernel, by decide +kernel⟩
theorem kRL_85 : lkV RL 85 yX5_odds cX5_odds 10 (some .int) 4 := ⟨q816, q817, q818, q53, q819, by decide +kernel, by decide +kernel, by decide +kernel⟩
theorem kRL_86 : lkV RL 86 yX4_led cX4_led 3 (some .int) 2 := ⟨q519, q520, q521, q48, q522, by decide +kernel, by decide +kernel, by decide +kernel⟩
theorem kRL_89 : lkV RL 89 yX5_led cX5_led 3 (some .int) 2 := ⟨q820, q821, q822, q53, q823, by decide +kernel, by decide +kernel, by decide +kernel⟩
theorem kRL_90 : lkV RL 90 yX4_forget cX4_forget 2 (some .int) 0 := ⟨q523, q524, q525, q48, q526, by decide +kernel, by decide +kernel, by decide +kernel⟩
theorem kRL_93 : lkV RL 93 yX5_forget cX5_forget 2 (some .int) 0 := ⟨q824, q825, q826, q53, q827, by decide +kernel, by decide +kernel, by decide +kernel⟩
theorem kRL_94 : lkV RL 94 yX4_vanilla cX4_vanilla 3 (some .int) 0 := ⟨q527, q528, q529, q48, q530, by decide +kernel, by decide +kernel, by decide +kernel⟩
theorem kRL_97 : lkV RL 97 yX5_vanilla cX5_vanilla 6 (some .int) 0 := ⟨q828, q829, q830, q53, q831, by decide +kernel, by decide +kernel, by decide +kernel⟩
theorem kRL_98 : lkV RL 98 yX4_mark cX4_mark 3 (some .int) 2 := ⟨q535, q536, q537, q48, q538, by decide +kernel, by decide +kernel, by decide +kernel⟩
theorem kRL_101 : lkV RL 101 yX5_mark cX5_mark 6 (some .int) 2 := ⟨q832, q833, q834, q53, q835, by decide +kernel, by decide +kernel, by decide +kernel⟩
theorem kRL_102 : lkV RL 102 yX4_keep cX4_keep 2 (some .int) 1 := ⟨q568, q569, q570, q48, q571, by decide +kernel, by decide +kernel, by decide +kernel⟩
theorem kRL_105 : lkV RL 105 yX5_keep cX5_keep 3 (some .int) 1 := ⟨q841, q842, q843, q53, q844, by decide +kernel, by decide +kernel, by decide +kernel⟩
theorem kRL_106 : lkV RL 106 yX4_back cX4_back 2 (some .int) 1 := ⟨q580, q581, q582, q48, q583, by decide +kernel, by decide +kernel, by decide +kernel⟩
theorem kRL_109 : lkV RL 109 yX5_back cX5_back 3 (some .int) 1 := ⟨q845, q846, q847, q53, q848, by decide +kernel, by decide +kernel, by decide +kernel⟩
theorem kRL_110 : lkV RL 110 yX4_count cX4_count 2 (some .int) 1 := ⟨q584, q585, q586, q48, q587, by decide +kernel, by decide +kernel, by decide +kernel⟩
theorem kRL_113 : lkV RL 113 yX5_count cX5_count 2 (some .int) 1 := ⟨q849, q850, q851, q53, q852, by decide +kernel, by decide +kernel, by decide +kernel⟩
theorem kRL_114 : lkV RL 114 yX4_trace cX4_trace 1 (some .long) 0 := ⟨q588, q589, q590, q48, q591, by decide +kernel, by decide +kernel, by decide +kernel⟩
theorem kRL_118 : lkV RL 118 yX5_trace cX5_trace 1 (some .long) 0 := ⟨q853, q854, q855, q53, q856, by decide +kernel, by decide +kernel, by decide +kernel⟩
theorem kRX5_42 : lkV RX5 42 yX5_reads cX5_reads 2 (some .boolean) 0 := ⟨q598, q600, q25, q53, q601, by decide +kernel, by decide +kernel, by decide +kernel⟩
theorem kRX5_46 : lkV RX5 46 yX5_begins cX5_begins 2 none 0 := ⟨q627, q629, q30, q53, q630, by decide +kernel, by decide +kernel, by decide +kernel⟩
theorem kRX5_49 : lkS RX5 49 yX5_in cX5_in 3 (some .boolean) 3 := ⟨q613, q614, q53, q615, by decide +kernel, by decide +kernel, by decide +kernel⟩
theorem kRX5_59 : lkV RX5 59 yX5_letterAt cX5_letterAt 2 (some .int) 1 := ⟨q606, q608, q27, q53, q609, by decide +kernel, by decide +kernel, by decide +kernel⟩
theorem kRX5_66 : lkS RX5 66 yX5_isLetter cX5_isLetter 1 (some .boolean) 1 := ⟨q610, q611, q53, q612, by decide +kernel, by decide +kernel, by decide +kernel⟩
theorem kRX5_70 : lkS RX5 70 yX5_isDigit cX5_isDigit 1 (some .boolean) 1 := ⟨q616, q617, q53, q618, by decide +kernel, by decide +kernel, by decide +kernel⟩
theorem kRX5_79 : lkV RX5 79 yX5_token cX5_token 2 none 0 := ⟨q602, q604, q26, q53, q605, by decide +kernel, by decide +kernel, by decide +kernel⟩
theorem kRX5_82 : lkV RX5 82 yX5_number cX5_number 4 (some .boolean) 3 := ⟨q623, q625, q29, q53, q626, by decide +kernel, by decide +kernel, by decide +kernel⟩
theorem kRX5_85 : lkV RX5 85 yX5_readsItem cX5_readsItem 3 (some .boolean) 0 := ⟨q619, q621, q28, q53, q622, by decide +kernel, by decide +kernel, by decide +kernel⟩
theorem kRX5_91 : lkV RX5 91 yX5_whereAll cX5_whereAll 4 (some .int) 1 := ⟨q705, q707, q32, q53, q708, by decide +kernel, by decide +kernel, by decide +kernel⟩
theorem kRX5_94 : lkS RX5 94 yX5_ones cX5_ones 3 (some .int) 1 := ⟨q713, q714, q53, q715, by decide +kernel, by decide +kernel, by decide +kernel⟩
theorem kRX5_97 : lkV RX5 97 yX5_isOven cX5_isOven 2 (some .boolean) 1 := ⟨q700, q702, q31, q53, q703, by decide +kernel, by decide +kernel, by decide +kernel⟩
theorem kRX5_101 : lkV RX5 101 yX5_hot cX5_hot 2 (some .int) 1 := ⟨q709, q711, q33, q53, q712, by decide +kernel, by decide +kernel, by decide +kernel⟩
theorem kRX5_104 : lkV RX5 104 yX5_isShut cX5_isShut 2 (some .boolean) 1 := ⟨q716, q718, q34, q53, q719, by decide +kernel, by decide +kernel, by decide +kernel⟩
theorem kRX5_107 : lkV RX5 107 yX5_smellOf cX5_smellOf 6 (some .int) 2 := ⟨q736, q738, q38, q53, q739, by decide +kernel, by decide +kernel, by decide +kernel⟩
theorem kRX5_111 : lkV RX5 111 yX5_isDough cX5_isDough 2 (some .boolean) 1 := ⟨q724, q726, q35, q53, q727, by decide +kernel, by decide +kernel, by decide +kernel⟩
theorem kRX5_114 : lkV RX5 114 yX5_isOut cX5_isOut 2 (some .boolean) 1 := ⟨q728, q730, q36, q53, q731, by decide +kernel, by decide +kernel, by decide +kernel⟩
theorem kRX5_117 : lkV RX5 117 yX5_noseOf cX5_noseOf 7 (some .int) 2 := ⟨q732, q734, q37, q53, q735, by decide +kernel, by decide +kernel, by decide +kernel⟩
theorem kRX5_120 : lkV RX5 120 yX5_mayGo cX5_mayGo 2 (some .boolean) 1 := ⟨q748, q750, q39, q53, q751, by decide +kernel, by decide +kernel, by decide +kernel⟩
theorem kRX5_123 : lkV RX5 123 yX5_keeps cX5_keeps 3 none 0 := ⟨q752, q754, q40, q53, q755, by decide +kernel, by decide +kernel, by decide +kernel⟩
theorem kRX5_126 : lkV RX5 126 yX5_passes cX5_passes 3 (some .int) 0 := ⟨q764, q766, q41, q53, q767, by decide +kernel, by decide +kernel, by decide +kernel⟩
theorem kRX5_130 : lkV RX5 130 yX5_holds cX5_holds 2 none 0 := ⟨q784, q786, q42, q53, q787, by decide +kernel, by decide +kernel, by decide +kernel⟩
theorem kRX5_133 : lkV RX5 133 yX5_lets cX5_lets 2 none 0 := ⟨q788, q790, q43, q53, q791, by decide +kernel, by decide +kernel, by decide +kernel⟩
theorem kRX5_136 : lkV RX5 136 yX5_doneBy cX5_doneBy 8 (some .int) 4 := ⟨q804, q806, q45, q53, q807, by decide +kernel, by decide +kernel, by decide +kernel⟩
theorem kRX5_140 : lkV RX5 140 yX5_reckons cX5_reckons 10 none 4 := ⟨q800, q802, q44, q53, q803, by decide +kernel, by decide +kernel, by decide +kernel⟩
theorem kRX5_144 : lkV RX5 144 yX5_soonestOf cX5_soonestOf 5 (some .int) 1 := ⟨q808, q810, q46, q53, q811, by decide +kernel, by decide +kernel, by decide +kernel⟩
end
