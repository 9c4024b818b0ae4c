section
/-- a private method of a class that the tables say can be made, by its rows of tables_1 -/
def lw_okq (q : MethodName × Nat) : Prop := (q.1.cls ≠ "java/lang/invoke/MethodHandle" ∧ q.1.cls ≠ "java/lang/invoke/VarHandle") ∧ Cond.instantiable q.1.cls q.2 ∈ tables_1 ∧ Cond.privateMethod q.1 ∈ tables_1 ∧ Cond.instanceMethod q.1 ∈ tables_1
theorem lw_p0 : lw_okq (⟨"OvenNoses$Script", "nextToken", "()V"⟩, 6) := ⟨⟨by decide +kernel, by decide +kernel⟩, List.mem_of_getElem? (i := 19) (by decide +kernel), List.mem_of_getElem? (i := 178) (by decide +kernel), List.mem_of_getElem? (i := 179) (by decide +kernel)⟩
theorem lw_p1 : lw_okq (⟨"OvenNoses$Script", "takeLetters", "()V"⟩, 6) := ⟨⟨by decide +kernel, by decide +kernel⟩, List.mem_of_getElem? (i := 19) (by decide +kernel), List.mem_of_getElem? (i := 185) (by decide +kernel), List.mem_of_getElem? (i := 186) (by decide +kernel)⟩
theorem lw_p2 : lw_okq (⟨"OvenNoses$Script", "takeNumber", "()V"⟩, 6) := ⟨⟨by decide +kernel, by decide +kernel⟩, List.mem_of_getElem? (i := 19) (by decide +kernel), List.mem_of_getElem? (i := 192) (by decide +kernel), List.mem_of_getElem? (i := 193) (by decide +kernel)⟩
theorem lw_p3 : lw_okq (⟨"OvenNoses$Script", "readItem", "(LOvenNoses$Told;)Z"⟩, 6) := ⟨⟨by decide +kernel, by decide +kernel⟩, List.mem_of_getElem? (i := 19) (by decide +kernel), List.mem_of_getElem? (i := 199) (by decide +kernel), List.mem_of_getElem? (i := 200) (by decide +kernel)⟩
theorem lw_p4 : lw_okq (⟨"OvenNoses$Script", "readOvenNumbers", "(LOvenNoses$Told;)Z"⟩, 6) := ⟨⟨by decide +kernel, by decide +kernel⟩, List.mem_of_getElem? (i := 19) (by decide +kernel), List.mem_of_getElem? (i := 207) (by decide +kernel), List.mem_of_getElem? (i := 208) (by decide +kernel)⟩
theorem lw_p5 : lw_okq (⟨"OvenNoses$Script", "isNumberWithin", "(II)Z"⟩, 6) := ⟨⟨by decide +kernel, by decide +kernel⟩, List.mem_of_getElem? (i := 19) (by decide +kernel), List.mem_of_getElem? (i := 213) (by decide +kernel), List.mem_of_getElem? (i := 214) (by decide +kernel)⟩
theorem lw_p6 : lw_okq (⟨"OvenNoses$Script", "readDoughNumbers", "(LOvenNoses$Told;)Z"⟩, 6) := ⟨⟨by decide +kernel, by decide +kernel⟩, List.mem_of_getElem? (i := 19) (by decide +kernel), List.mem_of_getElem? (i := 225) (by decide +kernel), List.mem_of_getElem? (i := 226) (by decide +kernel)⟩
theorem lw_p7 : lw_okq (⟨"OvenNoses$Course", "base", "()I"⟩, 2) := ⟨⟨by decide +kernel, by decide +kernel⟩, List.mem_of_getElem? (i := 64) (by decide +kernel), List.mem_of_getElem? (i := 276) (by decide +kernel), List.mem_of_getElem? (i := 277) (by decide +kernel)⟩
theorem lw_p8 : lw_okq (⟨"OvenNoses", "isOut", "(I)Z"⟩, 13) := ⟨⟨by decide +kernel, by decide +kernel⟩, List.mem_of_getElem? (i := 11) (by decide +kernel), List.mem_of_getElem? (i := 311) (by decide +kernel), List.mem_of_getElem? (i := 312) (by decide +kernel)⟩
theorem lw_p9 : lw_okq (⟨"OvenNoses", "noseOf", "(II)I"⟩, 13) := ⟨⟨by decide +kernel, by decide +kernel⟩, List.mem_of_getElem? (i := 11) (by decide +kernel), List.mem_of_getElem? (i := 315) (by decide +kernel), List.mem_of_getElem? (i := 316) (by decide +kernel)⟩
theorem lw_p10 : lw_okq (⟨"OvenNoses", "smellOf", "(III)I"⟩, 13) := ⟨⟨by decide +kernel, by decide +kernel⟩, List.mem_of_getElem? (i := 11) (by decide +kernel), List.mem_of_getElem? (i := 323) (by decide +kernel), List.mem_of_getElem? (i := 324) (by decide +kernel)⟩
theorem lw_p11 : lw_okq (⟨"OvenNoses", "liking", "(III)I"⟩, 13) := ⟨⟨by decide +kernel, by decide +kernel⟩, List.mem_of_getElem? (i := 11) (by decide +kernel), List.mem_of_getElem? (i := 328) (by decide +kernel), List.mem_of_getElem? (i := 329) (by decide +kernel)⟩
theorem lw_p12 : lw_okq (⟨"OvenNoses", "mayGoIn", "(I)Z"⟩, 13) := ⟨⟨by decide +kernel, by decide +kernel⟩, List.mem_of_getElem? (i := 11) (by decide +kernel), List.mem_of_getElem? (i := 340) (by decide +kernel), List.mem_of_getElem? (i := 341) (by decide +kernel)⟩
theorem lw_p13 : lw_okq (⟨"OvenNoses", "outAndGoneSour", "()I"⟩, 13) := ⟨⟨by decide +kernel, by decide +kernel⟩, List.mem_of_getElem? (i := 11) (by decide +kernel), List.mem_of_getElem? (i := 401) (by decide +kernel), List.mem_of_getElem? (i := 402) (by decide +kernel)⟩
theorem lw_p14 : lw_okq (⟨"OvenNoses$RowSearch", "extend", "(LOvenNoses$Told;III)V"⟩, 6) := ⟨⟨by decide +kernel, by decide +kernel⟩, List.mem_of_getElem? (i := 81) (by decide +kernel), List.mem_of_getElem? (i := 433) (by decide +kernel), List.mem_of_getElem? (i := 434) (by decide +kernel)⟩
theorem lw_p15 : lw_okq (⟨"OvenNoses$RowSearch", "weigh", "(II)V"⟩, 6) := ⟨⟨by decide +kernel, by decide +kernel⟩, List.mem_of_getElem? (i := 81) (by decide +kernel), List.mem_of_getElem? (i := 437) (by decide +kernel), List.mem_of_getElem? (i := 438) (by decide +kernel)⟩
def lw_privs_1 : List (MethodName × Nat) := [(⟨"OvenNoses$Script", "nextToken", "()V"⟩, 6), (⟨"OvenNoses$Script", "takeLetters", "()V"⟩, 6), (⟨"OvenNoses$Script", "takeNumber", "()V"⟩, 6), (⟨"OvenNoses$Script", "readItem", "(LOvenNoses$Told;)Z"⟩, 6), (⟨"OvenNoses$Script", "readOvenNumbers", "(LOvenNoses$Told;)Z"⟩, 6), (⟨"OvenNoses$Script", "isNumberWithin", "(II)Z"⟩, 6), (⟨"OvenNoses$Script", "readDoughNumbers", "(LOvenNoses$Told;)Z"⟩, 6), (⟨"OvenNoses$Course", "base", "()I"⟩, 2), (⟨"OvenNoses", "isOut", "(I)Z"⟩, 13), (⟨"OvenNoses", "noseOf", "(II)I"⟩, 13), (⟨"OvenNoses", "smellOf", "(III)I"⟩, 13), (⟨"OvenNoses", "liking", "(III)I"⟩, 13), (⟨"OvenNoses", "mayGoIn", "(I)Z"⟩, 13), (⟨"OvenNoses", "outAndGoneSour", "()I"⟩, 13), (⟨"OvenNoses$RowSearch", "extend", "(LOvenNoses$Told;III)V"⟩, 6), (⟨"OvenNoses$RowSearch", "weigh", "(II)V"⟩, 6)]
theorem lw_r1 : ∀ q ∈ lw_privs_1, lw_okq q := List.forall_mem_cons.mpr ⟨lw_p0, List.forall_mem_cons.mpr ⟨lw_p1, List.forall_mem_cons.mpr ⟨lw_p2, List.forall_mem_cons.mpr ⟨lw_p3, List.forall_mem_cons.mpr ⟨lw_p4, List.forall_mem_cons.mpr ⟨lw_p5, List.forall_mem_cons.mpr ⟨lw_p6, List.forall_mem_cons.mpr ⟨lw_p7, List.forall_mem_cons.mpr ⟨lw_p8, List.forall_mem_cons.mpr ⟨lw_p9, List.forall_mem_cons.mpr ⟨lw_p10, List.forall_mem_cons.mpr ⟨lw_p11, List.forall_mem_cons.mpr ⟨lw_p12, List.forall_mem_cons.mpr ⟨lw_p13, List.forall_mem_cons.mpr ⟨lw_p14, List.forall_mem_cons.mpr ⟨lw_p15, fun _ h => absurd h List.not_mem_nil⟩⟩⟩⟩⟩⟩⟩⟩⟩⟩⟩⟩⟩⟩⟩⟩
theorem lw_p16 : lw_okq (⟨"OvenNoses", "rivalsOf", "(II)I"⟩, 13) := ⟨⟨by decide +kernel, by decide +kernel⟩, List.mem_of_getElem? (i := 11) (by decide +kernel), List.mem_of_getElem? (i := 466) (by decide +kernel), List.mem_of_getElem? (i := 467) (by decide +kernel)⟩
theorem lw_p17 : lw_okq (⟨"OvenNoses", "allLedWith", "(I)Z"⟩, 13) := ⟨⟨by decide +kernel, by decide +kernel⟩, List.mem_of_getElem? (i := 11) (by decide +kernel), List.mem_of_getElem? (i := 485) (by decide +kernel), List.mem_of_getElem? (i := 486) (by decide +kernel)⟩
theorem lw_p18 : lw_okq (⟨"OvenNoses", "asDough", "(I)I"⟩, 13) := ⟨⟨by decide +kernel, by decide +kernel⟩, List.mem_of_getElem? (i := 11) (by decide +kernel), List.mem_of_getElem? (i := 493) (by decide +kernel), List.mem_of_getElem? (i := 494) (by decide +kernel)⟩
theorem lw_p19 : lw_okq (⟨"OvenNoses", "asCake", "(I)I"⟩, 13) := ⟨⟨by decide +kernel, by decide +kernel⟩, List.mem_of_getElem? (i := 11) (by decide +kernel), List.mem_of_getElem? (i := 497) (by decide +kernel), List.mem_of_getElem? (i := 498) (by decide +kernel)⟩
theorem lw_p20 : lw_okq (⟨"OvenNoses", "asHerring", "(I)I"⟩, 13) := ⟨⟨by decide +kernel, by decide +kernel⟩, List.mem_of_getElem? (i := 11) (by decide +kernel), List.mem_of_getElem? (i := 502) (by decide +kernel), List.mem_of_getElem? (i := 503) (by decide +kernel)⟩
theorem lw_p21 : lw_okq (⟨"OvenNoses", "asBride", "(I)I"⟩, 13) := ⟨⟨by decide +kernel, by decide +kernel⟩, List.mem_of_getElem? (i := 11) (by decide +kernel), List.mem_of_getElem? (i := 507) (by decide +kernel), List.mem_of_getElem? (i := 508) (by decide +kernel)⟩
theorem lw_p22 : lw_okq (⟨"OvenNoses", "asWidow", "(I)I"⟩, 13) := ⟨⟨by decide +kernel, by decide +kernel⟩, List.mem_of_getElem? (i := 11) (by decide +kernel), List.mem_of_getElem? (i := 512) (by decide +kernel), List.mem_of_getElem? (i := 513) (by decide +kernel)⟩
theorem lw_p23 : lw_okq (⟨"OvenNoses", "asSniff", "(I)I"⟩, 13) := ⟨⟨by decide +kernel, by decide +kernel⟩, List.mem_of_getElem? (i := 11) (by decide +kernel), List.mem_of_getElem? (i := 517) (by decide +kernel), List.mem_of_getElem? (i := 518) (by decide +kernel)⟩
theorem lw_p24 : lw_okq (⟨"OvenNoses", "imageCourse", "(I)LOvenNoses$Course;"⟩, 13) := ⟨⟨by decide +kernel, by decide +kernel⟩, List.mem_of_getElem? (i := 11) (by decide +kernel), List.mem_of_getElem? (i := 526) (by decide +kernel), List.mem_of_getElem? (i := 527) (by decide +kernel)⟩
theorem lw_p25 : lw_okq (⟨"OvenNosesModel", "reads", "()Z"⟩, 17) := ⟨⟨by decide +kernel, by decide +kernel⟩, List.mem_of_getElem? (i := 546) (by decide +kernel), List.mem_of_getElem? (i := 552) (by decide +kernel), List.mem_of_getElem? (i := 553) (by decide +kernel)⟩
theorem lw_p26 : lw_okq (⟨"OvenNosesModel", "token", "()V"⟩, 17) := ⟨⟨by decide +kernel, by decide +kernel⟩, List.mem_of_getElem? (i := 546) (by decide +kernel), List.mem_of_getElem? (i := 556) (by decide +kernel), List.mem_of_getElem? (i := 557) (by decide +kernel)⟩
theorem lw_p27 : lw_okq (⟨"OvenNosesModel", "letterAt", "(I)I"⟩, 17) := ⟨⟨by decide +kernel, by decide +kernel⟩, List.mem_of_getElem? (i := 546) (by decide +kernel), List.mem_of_getElem? (i := 560) (by decide +kernel), List.mem_of_getElem? (i := 561) (by decide +kernel)⟩
theorem lw_p28 : lw_okq (⟨"OvenNosesModel", "readsItem", "()Z"⟩, 17) := ⟨⟨by decide +kernel, by decide +kernel⟩, List.mem_of_getElem? (i := 546) (by decide +kernel), List.mem_of_getElem? (i := 573) (by decide +kernel), List.mem_of_getElem? (i := 574) (by decide +kernel)⟩
theorem lw_p29 : lw_okq (⟨"OvenNosesModel", "number", "(III)Z"⟩, 17) := ⟨⟨by decide +kernel, by decide +kernel⟩, List.mem_of_getElem? (i := 546) (by decide +kernel), List.mem_of_getElem? (i := 577) (by decide +kernel), List.mem_of_getElem? (i := 578) (by decide +kernel)⟩
theorem lw_p30 : lw_okq (⟨"OvenNosesModel", "begins", "()V"⟩, 17) := ⟨⟨by decide +kernel, by decide +kernel⟩, List.mem_of_getElem? (i := 546) (by decide +kernel), List.mem_of_getElem? (i := 581) (by decide +kernel), List.mem_of_getElem? (i := 582) (by decide +kernel)⟩
theorem lw_p31 : lw_okq (⟨"OvenNosesModel", "isOven", "(I)Z"⟩, 17) := ⟨⟨by decide +kernel, by decide +kernel⟩, List.mem_of_getElem? (i := 546) (by decide +kernel), List.mem_of_getElem? (i := 654) (by decide +kernel), List.mem_of_getElem? (i := 655) (by decide +kernel)⟩
def lw_privs_2 : List (MethodName × Nat) := [(⟨"OvenNoses", "rivalsOf", "(II)I"⟩, 13), (⟨"OvenNoses", "allLedWith", "(I)Z"⟩, 13), (⟨"OvenNoses", "asDough", "(I)I"⟩, 13), (⟨"OvenNoses", "asCake", "(I)I"⟩, 13), (⟨"OvenNoses", "asHerring", "(I)I"⟩, 13), (⟨"OvenNoses", "asBride", "(I)I"⟩, 13), (⟨"OvenNoses", "asWidow", "(I)I"⟩, 13), (⟨"OvenNoses", "asSniff", "(I)I"⟩, 13), (⟨"OvenNoses", "imageCourse", "(I)LOvenNoses$Course;"⟩, 13), (⟨"OvenNosesModel", "reads", "()Z"⟩, 17), (⟨"OvenNosesModel", "token", "()V"⟩, 17), (⟨"OvenNosesModel", "letterAt", "(I)I"⟩, 17), (⟨"OvenNosesModel", "readsItem", "()Z"⟩, 17), (⟨"OvenNosesModel", "number", "(III)Z"⟩, 17), (⟨"OvenNosesModel", "begins", "()V"⟩, 17), (⟨"OvenNosesModel", "isOven", "(I)Z"⟩, 17)]
theorem lw_r2 : ∀ q ∈ lw_privs_2, lw_okq q := List.forall_mem_cons.mpr ⟨lw_p16, List.forall_mem_cons.mpr ⟨lw_p17, List.forall_mem_cons.mpr ⟨lw_p18, List.forall_mem_cons.mpr ⟨lw_p19, List.forall_mem_cons.mpr ⟨lw_p20, List.forall_mem_cons.mpr ⟨lw_p21, List.forall_mem_cons.mpr ⟨lw_p22, List.forall_mem_cons.mpr ⟨lw_p23, List.forall_mem_cons.mpr ⟨lw_p24, List.forall_mem_cons.mpr ⟨lw_p25, List.forall_mem_cons.mpr ⟨lw_p26, List.forall_mem_cons.mpr ⟨lw_p27, List.forall_mem_cons.mpr ⟨lw_p28, List.forall_mem_cons.mpr ⟨lw_p29, List.forall_mem_cons.mpr ⟨lw_p30, List.forall_mem_cons.mpr ⟨lw_p31, fun _ h => absurd h List.not_mem_nil⟩⟩⟩⟩⟩⟩⟩⟩⟩⟩⟩⟩⟩⟩⟩⟩
theorem lw_p32 : lw_okq (⟨"OvenNosesModel", "whereAll", "(I)I"⟩, 17) := ⟨⟨by decide +kernel, by decide +kernel⟩, List.mem_of_getElem? (i := 546) (by decide +kernel), List.mem_of_getElem? (i := 659) (by decide +kernel), List.mem_of_getElem? (i := 660) (by decide +kernel)⟩
theorem lw_p33 : lw_okq (⟨"OvenNosesModel", "hot", "(I)I"⟩, 17) := ⟨⟨by decide +kernel, by decide +kernel⟩, List.mem_of_getElem? (i := 546) (by decide +kernel), List.mem_of_getElem? (i := 663) (by decide +kernel), List.mem_of_getElem? (i := 664) (by decide +kernel)⟩
theorem lw_p34 : lw_okq (⟨"OvenNosesModel", "isShut", "(I)Z"⟩, 17) := ⟨⟨by decide +kernel, by decide +kernel⟩, List.mem_of_getElem? (i := 546) (by decide +kernel), List.mem_of_getElem? (i := 670) (by decide +kernel), List.mem_of_getElem? (i := 671) (by decide +kernel)⟩
theorem lw_p35 : lw_okq (⟨"OvenNosesModel", "isDough", "(I)Z"⟩, 17) := ⟨⟨by decide +kernel, by decide +kernel⟩, List.mem_of_getElem? (i := 546) (by decide +kernel), List.mem_of_getElem? (i := 678) (by decide +kernel), List.mem_of_getElem? (i := 679) (by decide +kernel)⟩
theorem lw_p36 : lw_okq (⟨"OvenNosesModel", "isOut", "(I)Z"⟩, 17) := ⟨⟨by decide +kernel, by decide +kernel⟩, List.mem_of_getElem? (i := 546) (by decide +kernel), List.mem_of_getElem? (i := 682) (by decide +kernel), List.mem_of_getElem? (i := 683) (by decide +kernel)⟩
theorem lw_p37 : lw_okq (⟨"OvenNosesModel", "noseOf", "(II)I"⟩, 17) := ⟨⟨by decide +kernel, by decide +kernel⟩, List.mem_of_getElem? (i := 546) (by decide +kernel), List.mem_of_getElem? (i := 686) (by decide +kernel), List.mem_of_getElem? (i := 687) (by decide +kernel)⟩
theorem lw_p38 : lw_okq (⟨"OvenNosesModel", "smellOf", "(II)I"⟩, 17) := ⟨⟨by decide +kernel, by decide +kernel⟩, List.mem_of_getElem? (i := 546) (by decide +kernel), List.mem_of_getElem? (i := 690) (by decide +kernel), List.mem_of_getElem? (i := 691) (by decide +kernel)⟩
theorem lw_p39 : lw_okq (⟨"OvenNosesModel", "mayGo", "(I)Z"⟩, 17) := ⟨⟨by decide +kernel, by decide +kernel⟩, List.mem_of_getElem? (i := 546) (by decide +kernel), List.mem_of_getElem? (i := 702) (by decide +kernel), List.mem_of_getElem? (i := 703) (by decide +kernel)⟩
theorem lw_p40 : lw_okq (⟨"OvenNosesModel", "keeps", "()V"⟩, 17) := ⟨⟨by decide +kernel, by decide +kernel⟩, List.mem_of_getElem? (i := 546) (by decide +kernel), List.mem_of_getElem? (i := 706) (by decide +kernel), List.mem_of_getElem? (i := 707) (by decide +kernel)⟩
theorem lw_p41 : lw_okq (⟨"OvenNosesModel", "passes", "()I"⟩, 17) := ⟨⟨by decide +kernel, by decide +kernel⟩, List.mem_of_getElem? (i := 546) (by decide +kernel), List.mem_of_getElem? (i := 718) (by decide +kernel), List.mem_of_getElem? (i := 719) (by decide +kernel)⟩
theorem lw_p42 : lw_okq (⟨"OvenNosesModel", "holds", "()V"⟩, 17) := ⟨⟨by decide +kernel, by decide +kernel⟩, List.mem_of_getElem? (i := 546) (by decide +kernel), List.mem_of_getElem? (i := 738) (by decide +kernel), List.mem_of_getElem? (i := 739) (by decide +kernel)⟩
theorem lw_p43 : lw_okq (⟨"OvenNosesModel", "lets", "()V"⟩, 17) := ⟨⟨by decide +kernel, by decide +kernel⟩, List.mem_of_getElem? (i := 546) (by decide +kernel), List.mem_of_getElem? (i := 742) (by decide +kernel), List.mem_of_getElem? (i := 743) (by decide +kernel)⟩
theorem lw_p44 : lw_okq (⟨"OvenNosesModel", "reckons", "(IIII)V"⟩, 17) := ⟨⟨by decide +kernel, by decide +kernel⟩, List.mem_of_getElem? (i := 546) (by decide +kernel), List.mem_of_getElem? (i := 754) (by decide +kernel), List.mem_of_getElem? (i := 755) (by decide +kernel)⟩
theorem lw_p45 : lw_okq (⟨"OvenNosesModel", "doneBy", "(IIII)I"⟩, 17) := ⟨⟨by decide +kernel, by decide +kernel⟩, List.mem_of_getElem? (i := 546) (by decide +kernel), List.mem_of_getElem? (i := 758) (by decide +kernel), List.mem_of_getElem? (i := 759) (by decide +kernel)⟩
theorem lw_p46 : lw_okq (⟨"OvenNosesModel", "soonestOf", "(I)I"⟩, 17) := ⟨⟨by decide +kernel, by decide +kernel⟩, List.mem_of_getElem? (i := 546) (by decide +kernel), List.mem_of_getElem? (i := 762) (by decide +kernel), List.mem_of_getElem? (i := 763) (by decide +kernel)⟩
def lw_privs_3 : List (MethodName × Nat) := [(⟨"OvenNosesModel", "whereAll", "(I)I"⟩, 17), (⟨"OvenNosesModel", "hot", "(I)I"⟩, 17), (⟨"OvenNosesModel", "isShut", "(I)Z"⟩, 17), (⟨"OvenNosesModel", "isDough", "(I)Z"⟩, 17), (⟨"OvenNosesModel", "isOut", "(I)Z"⟩, 17), (⟨"OvenNosesModel", "noseOf", "(II)I"⟩, 17), (⟨"OvenNosesModel", "smellOf", "(II)I"⟩, 17), (⟨"OvenNosesModel", "mayGo", "(I)Z"⟩, 17), (⟨"OvenNosesModel", "keeps", "()V"⟩, 17), (⟨"OvenNosesModel", "passes", "()I"⟩, 17), (⟨"OvenNosesModel", "holds", "()V"⟩, 17), (⟨"OvenNosesModel", "lets", "()V"⟩, 17), (⟨"OvenNosesModel", "reckons", "(IIII)V"⟩, 17), (⟨"OvenNosesModel", "doneBy", "(IIII)I"⟩, 17), (⟨"OvenNosesModel", "soonestOf", "(I)I"⟩, 17)]
theorem lw_r3 : ∀ q ∈ lw_privs_3, lw_okq q := List.forall_mem_cons.mpr ⟨lw_p32, List.forall_mem_cons.mpr ⟨lw_p33, List.forall_mem_cons.mpr ⟨lw_p34, List.forall_mem_cons.mpr ⟨lw_p35, List.forall_mem_cons.mpr ⟨lw_p36, List.forall_mem_cons.mpr ⟨lw_p37, List.forall_mem_cons.mpr ⟨lw_p38, List.forall_mem_cons.mpr ⟨lw_p39, List.forall_mem_cons.mpr ⟨lw_p40, List.forall_mem_cons.mpr ⟨lw_p41, List.forall_mem_cons.mpr ⟨lw_p42, List.forall_mem_cons.mpr ⟨lw_p43, List.forall_mem_cons.mpr ⟨lw_p44, List.forall_mem_cons.mpr ⟨lw_p45, List.forall_mem_cons.mpr ⟨lw_p46, fun _ h => absurd h List.not_mem_nil⟩⟩⟩⟩⟩⟩⟩⟩⟩⟩⟩⟩⟩⟩⟩
def lw_privs : List (MethodName × Nat) := lw_privs_1 ++ (lw_privs_2 ++ (lw_privs_3))
def lw_tbl : List Cond := k2_sels lw_privs ++ tables_1
theorem lw_privs_ok : ∀ q ∈ lw_privs, lw_okq q := by
  show ∀ q ∈ lw_privs_1 ++ (lw_privs_2 ++ (lw_privs_3)), lw_okq q
  exact List.forall_mem_append.mpr ⟨lw_r1, List.forall_mem_append.mpr ⟨lw_r2, lw_r3⟩⟩
-- names (printed by the claim)
def RX0 : String := "OvenNoses$Course"
def TX0 : u_T := fun k => match k with
  | 0 => ("OvenNoses$Course", "rows", "[I", true)
  | _ => ("OvenNoses$Course", "knownSteps", "I", false)
def tyX0 : Nat → FieldType := fun k => match k with
  | 0 => .array .int
  | _ => .int
abbrev wsX00 : List Cond := u_ws RX0 TX0 2
theorem nmX0 : ∀ a, a < 2 → ∀ b, b < 2 → a ≠ b → (TX0 a).2.1 ≠ (TX0 b).2.1 := by decide +kernel
theorem tyX0_ok : ∀ k, k < 2 → parseFieldDescriptor (TX0 k).2.2.1 = some (tyX0 k) := by decide +kernel
abbrev cX0_init : ByteArray := prog_2_method_1_code
def yX0_init : MethodName := ⟨RX0, "<init>", "()V"⟩
abbrev cX0_begin : ByteArray := prog_2_method_2_code
def yX0_begin : MethodName := ⟨RX0, "begin", "()V"⟩
abbrev cX0_copyAll : ByteArray := prog_2_method_3_code
def yX0_copyAll : MethodName := ⟨RX0, "copyAll", "(LOvenNoses$Course;)V"⟩
abbrev cX0_copyNow : ByteArray := prog_2_method_4_code
def yX0_copyNow : MethodName := ⟨RX0, "copyNow", "(LOvenNoses$Course;)V"⟩
abbrev cX0_remember : ByteArray := prog_2_method_5_code
def yX0_remember : MethodName := ⟨RX0, "remember", "()V"⟩
abbrev cX0_takeBack : ByteArray := prog_2_method_6_code
def yX0_takeBack : MethodName := ⟨RX0, "takeBack", "()Z"⟩
abbrev cX0_known : ByteArray := prog_2_method_7_code
def yX0_known : MethodName := ⟨RX0, "known", "()I"⟩
abbrev cX0_minute : ByteArray := prog_2_method_8_code
def yX0_minute : MethodName := ⟨RX0, "minute", "()I"⟩
abbrev cX0_shutBits : ByteArray := prog_2_method_9_code
def yX0_shutBits : MethodName := ⟨RX0, "shutBits", "()I"⟩
abbrev cX0_isShut : ByteArray := prog_2_method_10_code
def yX0_isShut : MethodName := ⟨RX0, "isShut", "(I)Z"⟩
abbrev cX0_turnDoor : ByteArray := prog_2_method_11_code
def yX0_turnDoor : MethodName := ⟨RX0, "turnDoor", "(I)V"⟩
abbrev cX0_place : ByteArray := prog_2_method_12_code
def yX0_place : MethodName := ⟨RX0, "place", "(I)I"⟩
abbrev cX0_baked : ByteArray := prog_2_method_13_code
def yX0_baked : MethodName := ⟨RX0, "baked", "(I)I"⟩
abbrev cX0_putIn : ByteArray := prog_2_method_14_code
def yX0_putIn : MethodName := ⟨RX0, "putIn", "(II)V"⟩
abbrev cX0_placedAt : ByteArray := prog_2_method_15_code
def yX0_placedAt : MethodName := ⟨RX0, "placedAt", "(LOvenNoses$Told;I)I"⟩
abbrev cX0_hot : ByteArray := prog_2_method_16_code
def yX0_hot : MethodName := ⟨RX0, "hot", "(LOvenNoses$Told;I)I"⟩
abbrev cX0_passMinute : ByteArray := prog_2_method_17_code
def yX0_passMinute : MethodName := ⟨RX0, "passMinute", "(LOvenNoses$Told;)V"⟩
abbrev cX0_base : ByteArray := prog_2_method_18_code
def yX0_base : MethodName := ⟨RX0, "base", "()I"⟩
abbrev cX0_isPlace : ByteArray := prog_2_method_19_code
def yX0_isPlace : MethodName := ⟨RX0, "isPlace", "(I)Z"⟩
def RX1 : String := "OvenNoses$RowSearch"
def TX1 : u_T := fun k => match k with
  | 0 => ("OvenNoses$RowSearch", "row", "[I", true)
  | 1 => ("OvenNoses$RowSearch", "best", "[I", true)
  | 2 => ("OvenNoses$RowSearch", "bakingTimes", "[I", true)
  | 3 => ("OvenNoses$RowSearch", "bestLength", "I", false)
  | 4 => ("OvenNoses$RowSearch", "bestLastEnd", "I", false)
  | _ => ("OvenNoses$RowSearch", "limit", "I", false)
def tyX1 : Nat → FieldType := fun k => match k with
  | 0 => .array .int
  | 1 => .array .int
  | 2 => .array .int
  | 3 => .int
  | 4 => .int
  | _ => .int
abbrev wsX10 : List Cond := u_ws RX1 TX1 6
theorem nmX1 : ∀ a, a < 6 → ∀ b, b < 6 → a ≠ b → (TX1 a).2.1 ≠ (TX1 b).2.1 := by decide +kernel
theorem tyX1_ok : ∀ k, k < 6 → parseFieldDescriptor (TX1 k).2.2.1 = some (tyX1 k) := by decide +kernel
abbrev cX1_init : ByteArray := prog_3_method_1_code
def yX1_init : MethodName := ⟨RX1, "<init>", "()V"⟩
abbrev cX1_find : ByteArray := prog_3_method_2_code
def yX1_find : MethodName := ⟨RX1, "find", "(LOvenNoses$Told;LOvenNoses$Course;II)V"⟩
abbrev cX1_bestCount : ByteArray := prog_3_method_3_code
def yX1_bestCount : MethodName := ⟨RX1, "bestCount", "()I"⟩
abbrev cX1_bestEnd : ByteArray := prog_3_method_4_code
def yX1_bestEnd : MethodName := ⟨RX1, "bestEnd", "()I"⟩
abbrev cX1_bestAt : ByteArray := prog_3_method_5_code
def yX1_bestAt : MethodName := ⟨RX1, "bestAt", "(I)I"⟩
abbrev cX1_extend : ByteArray := prog_3_method_6_code
def yX1_extend : MethodName := ⟨RX1, "extend", "(LOvenNoses$Told;III)V"⟩
abbrev cX1_weigh : ByteArray := prog_3_method_7_code
def yX1_weigh : MethodName := ⟨RX1, "weigh", "(II)V"⟩
def RX2 : String := "OvenNoses$Script"
def TX2 : u_T := fun k => match k with
  | 0 => ("OvenNoses$Script", "bytes", "[I", true)
  | 1 => ("OvenNoses$Script", "byteCount", "I", false)
  | 2 => ("OvenNoses$Script", "place", "I", false)
  | 3 => ("OvenNoses$Script", "token", "I", false)
  | 4 => ("OvenNoses$Script", "tokenStart", "I", false)
  | _ => ("OvenNoses$Script", "tokenValue", "I", false)
def tyX2 : Nat → FieldType := fun k => match k with
  | 0 => .array .int
  | 1 => .int
  | 2 => .int
  | 3 => .int
  | 4 => .int
  | _ => .int
abbrev wsX20 : List Cond := u_ws RX2 TX2 6
theorem nmX2 : ∀ a, a < 6 → ∀ b, b < 6 → a ≠ b → (TX2 a).2.1 ≠ (TX2 b).2.1 := by decide +kernel
theorem tyX2_ok : ∀ k, k < 6 → parseFieldDescriptor (TX2 k).2.2.1 = some (tyX2 k) := by decide +kernel
abbrev cX2_init : ByteArray := prog_4_method_1_code
def yX2_init : MethodName := ⟨RX2, "<init>", "()V"⟩
abbrev cX2_add : ByteArray := prog_4_method_2_code
def yX2_add : MethodName := ⟨RX2, "add", "(I)Z"⟩
abbrev cX2_length : ByteArray := prog_4_method_3_code
def yX2_length : MethodName := ⟨RX2, "length", "()I"⟩
abbrev cX2_empty : ByteArray := prog_4_method_4_code
def yX2_empty : MethodName := ⟨RX2, "empty", "()V"⟩
abbrev cX2_read : ByteArray := prog_4_method_5_code
def yX2_read : MethodName := ⟨RX2, "read", "(LOvenNoses$Told;)I"⟩
abbrev cX2_readItem : ByteArray := prog_4_method_6_code
def yX2_readItem : MethodName := ⟨RX2, "readItem", "(LOvenNoses$Told;)Z"⟩
abbrev cX2_readOvenNumbers : ByteArray := prog_4_method_7_code
def yX2_readOvenNumbers : MethodName := ⟨RX2, "readOvenNumbers", "(LOvenNoses$Told;)Z"⟩
abbrev cX2_readDoughNumbers : ByteArray := prog_4_method_8_code
def yX2_readDoughNumbers : MethodName := ⟨RX2, "readDoughNumbers", "(LOvenNoses$Told;)Z"⟩
abbrev cX2_isNumberWithin : ByteArray := prog_4_method_9_code
def yX2_isNumberWithin : MethodName := ⟨RX2, "isNumberWithin", "(II)Z"⟩
abbrev cX2_nextToken : ByteArray := prog_4_method_10_code
def yX2_nextToken : MethodName := ⟨RX2, "nextToken", "()V"⟩
abbrev cX2_takeLetters : ByteArray := prog_4_method_11_code
def yX2_takeLetters : MethodName := ⟨RX2, "takeLetters", "()V"⟩
abbrev cX2_takeNumber : ByteArray := prog_4_method_12_code
def yX2_takeNumber : MethodName := ⟨RX2, "takeNumber", "()V"⟩
abbrev cX2_isLetter : ByteArray := prog_4_method_13_code
def yX2_isLetter : MethodName := ⟨RX2, "isLetter", "(I)Z"⟩
abbrev cX2_isDigit : ByteArray := prog_4_method_14_code
def yX2_isDigit : MethodName := ⟨RX2, "isDigit", "(I)Z"⟩
def RX3 : String := "OvenNoses$Told"
def TX3 : u_T := fun k => match k with
  | 0 => ("OvenNoses$Told", "ovenNumbers", "[I", true)
  | 1 => ("OvenNoses$Told", "doughNumbers", "[I", true)
  | 2 => ("OvenNoses$Told", "ovenCount", "I", false)
  | _ => ("OvenNoses$Told", "doughCount", "I", false)
def tyX3 : Nat → FieldType := fun k => match k with
  | 0 => .array .int
  | 1 => .array .int
  | 2 => .int
  | _ => .int
abbrev wsX30 : List Cond := u_ws RX3 TX3 4
theorem nmX3 : ∀ a, a < 4 → ∀ b, b < 4 → a ≠ b → (TX3 a).2.1 ≠ (TX3 b).2.1 := by decide +kernel
theorem tyX3_ok : ∀ k, k < 4 → parseFieldDescriptor (TX3 k).2.2.1 = some (tyX3 k) := by decide +kernel
abbrev cX3_init : ByteArray := prog_5_method_1_code
def yX3_init : MethodName := ⟨RX3, "<init>", "()V"⟩
abbrev cX3_forgetAll : ByteArray := prog_5_method_2_code
def yX3_forgetAll : MethodName := ⟨RX3, "forgetAll", "()V"⟩
abbrev cX3_ovens : ByteArray := prog_5_method_3_code
def yX3_ovens : MethodName := ⟨RX3, "ovens", "()I"⟩
abbrev cX3_doughs : ByteArray := prog_5_method_4_code
def yX3_doughs : MethodName := ⟨RX3, "doughs", "()I"⟩
abbrev cX3_hasOven : ByteArray := prog_5_method_5_code
def yX3_hasOven : MethodName := ⟨RX3, "hasOven", "(I)Z"⟩
abbrev cX3_hasDough : ByteArray := prog_5_method_6_code
def yX3_hasDough : MethodName := ⟨RX3, "hasDough", "(I)Z"⟩
abbrev cX3_ofOven : ByteArray := prog_5_method_7_code
def yX3_ofOven : MethodName := ⟨RX3, "ofOven", "(II)I"⟩
abbrev cX3_ofDough : ByteArray := prog_5_method_8_code
def yX3_ofDough : MethodName := ⟨RX3, "ofDough", "(II)I"⟩
abbrev cX3_addOven : ByteArray := prog_5_method_9_code
def yX3_addOven : MethodName := ⟨RX3, "addOven", "()Z"⟩
abbrev cX3_addDough : ByteArray := prog_5_method_10_code
def yX3_addDough : MethodName := ⟨RX3, "addDough", "()Z"⟩
abbrev cX3_setOfLastOven : ByteArray := prog_5_method_11_code
def yX3_setOfLastOven : MethodName := ⟨RX3, "setOfLastOven", "(II)V"⟩
abbrev cX3_setOfLastDough : ByteArray := prog_5_method_12_code
def yX3_setOfLastDough : MethodName := ⟨RX3, "setOfLastDough", "(II)V"⟩
def RX4 : String := "OvenNoses"
def TX4 : u_T := fun k => match k with
  | 0 => ("OvenNoses", "script", "LOvenNoses$Script;", true)
  | 1 => ("OvenNoses", "told", "LOvenNoses$Told;", false)
  | 2 => ("OvenNoses", "draft", "LOvenNoses$Told;", false)
  | 3 => ("OvenNoses", "course", "LOvenNoses$Course;", true)
  | 4 => ("OvenNoses", "trial", "LOvenNoses$Course;", true)
  | 5 => ("OvenNoses", "imageZero", "LOvenNoses$Course;", true)
  | 6 => ("OvenNoses", "imageOne", "LOvenNoses$Course;", true)
  | 7 => ("OvenNoses", "keptImages", "I", false)
  | 8 => ("OvenNoses", "ledDoughs", "[I", true)
  | 9 => ("OvenNoses", "ledOvens", "[I", true)
  | 10 => ("OvenNoses", "ledCount", "I", false)
  | 11 => ("OvenNoses", "rowSearch", "LOvenNoses$RowSearch;", true)
  | _ => ("OvenNoses", "traceSum", "J", false)
def tyX4 : Nat → FieldType := fun k => match k with
  | 0 => .object "OvenNoses$Script"
  | 1 => .object "OvenNoses$Told"
  | 2 => .object "OvenNoses$Told"
  | 3 => .object "OvenNoses$Course"
  | 4 => .object "OvenNoses$Course"
  | 5 => .object "OvenNoses$Course"
  | 6 => .object "OvenNoses$Course"
  | 7 => .int
  | 8 => .array .int
  | 9 => .array .int
  | 10 => .int
  | 11 => .object "OvenNoses$RowSearch"
  | _ => .long
abbrev wsX40 : List Cond := u_ws RX4 TX4 13
theorem nmX4 : ∀ a, a < 13 → ∀ b, b < 13 → a ≠ b → (TX4 a).2.1 ≠ (TX4 b).2.1 := by decide +kernel
theorem tyX4_ok : ∀ k, k < 13 → parseFieldDescriptor (TX4 k).2.2.1 = some (tyX4 k) := by decide +kernel
abbrev cX4_init : ByteArray := prog_1_method_1_code
def yX4_init : MethodName := ⟨RX4, "<init>", "()V"⟩
abbrev cX4_type : ByteArray := prog_1_method_2_code
def yX4_type : MethodName := ⟨RX4, "type", "(I)I"⟩
abbrev cX4_clear : ByteArray := prog_1_method_3_code
def yX4_clear : MethodName := ⟨RX4, "clear", "()I"⟩
abbrev cX4_quarter : ByteArray := prog_1_method_4_code
def yX4_quarter : MethodName := ⟨RX4, "quarter", "()I"⟩
abbrev cX4_oven : ByteArray := prog_1_method_5_code
def yX4_oven : MethodName := ⟨RX4, "oven", "(II)I"⟩
abbrev cX4_dough : ByteArray := prog_1_method_6_code
def yX4_dough : MethodName := ⟨RX4, "dough", "(II)I"⟩
abbrev cX4_smell : ByteArray := prog_1_method_7_code
def yX4_smell : MethodName := ⟨RX4, "smell", "(II)I"⟩
abbrev cX4_follows : ByteArray := prog_1_method_8_code
def yX4_follows : MethodName := ⟨RX4, "follows", "(I)I"⟩
abbrev cX4_puts : ByteArray := prog_1_method_9_code
def yX4_puts : MethodName := ⟨RX4, "puts", "(II)I"⟩
abbrev cX4_minutes : ByteArray := prog_1_method_10_code
def yX4_minutes : MethodName := ⟨RX4, "minutes", "(I)I"⟩
abbrev cX4_shuts : ByteArray := prog_1_method_11_code
def yX4_shuts : MethodName := ⟨RX4, "shuts", "(II)I"⟩
abbrev cX4_undo : ByteArray := prog_1_method_12_code
def yX4_undo : MethodName := ⟨RX4, "undo", "()I"⟩
abbrev cX4_now : ByteArray := prog_1_method_13_code
def yX4_now : MethodName := ⟨RX4, "now", "(I)I"⟩
abbrev cX4_when : ByteArray := prog_1_method_14_code
def yX4_when : MethodName := ⟨RX4, "when", "(I)I"⟩
abbrev cX4_moved : ByteArray := prog_1_method_15_code
def yX4_moved : MethodName := ⟨RX4, "moved", "(I)I"⟩
abbrev cX4_order : ByteArray := prog_1_method_16_code
def yX4_order : MethodName := ⟨RX4, "order", "(III)I"⟩
abbrev cX4_fire : ByteArray := prog_1_method_17_code
def yX4_fire : MethodName := ⟨RX4, "fire", "(II)I"⟩
abbrev cX4_odds : ByteArray := prog_1_method_18_code
def yX4_odds : MethodName := ⟨RX4, "odds", "(IIII)I"⟩
abbrev cX4_led : ByteArray := prog_1_method_19_code
def yX4_led : MethodName := ⟨RX4, "led", "(II)I"⟩
abbrev cX4_forget : ByteArray := prog_1_method_20_code
def yX4_forget : MethodName := ⟨RX4, "forget", "()I"⟩
abbrev cX4_vanilla : ByteArray := prog_1_method_21_code
def yX4_vanilla : MethodName := ⟨RX4, "vanilla", "()I"⟩
abbrev cX4_mark : ByteArray := prog_1_method_22_code
def yX4_mark : MethodName := ⟨RX4, "mark", "(II)I"⟩
abbrev cX4_keep : ByteArray := prog_1_method_23_code
def yX4_keep : MethodName := ⟨RX4, "keep", "(I)I"⟩
abbrev cX4_back : ByteArray := prog_1_method_24_code
def yX4_back : MethodName := ⟨RX4, "back", "(I)I"⟩
abbrev cX4_count : ByteArray := prog_1_method_25_code
def yX4_count : MethodName := ⟨RX4, "count", "(I)I"⟩
abbrev cX4_trace : ByteArray := prog_1_method_26_code
def yX4_trace : MethodName := ⟨RX4, "trace", "()J"⟩
abbrev cX4_isOut : ByteArray := prog_1_method_27_code
def yX4_isOut : MethodName := ⟨RX4, "isOut", "(I)Z"⟩
abbrev cX4_mayGoIn : ByteArray := prog_1_method_28_code
def yX4_mayGoIn : MethodName := ⟨RX4, "mayGoIn", "(I)Z"⟩
abbrev cX4_outAndGoneSour : ByteArray := prog_1_method_29_code
def yX4_outAndGoneSour : MethodName := ⟨RX4, "outAndGoneSour", "()I"⟩
abbrev cX4_smellOf : ByteArray := prog_1_method_30_code
def yX4_smellOf : MethodName := ⟨RX4, "smellOf", "(III)I"⟩
abbrev cX4_liking : ByteArray := prog_1_method_31_code
def yX4_liking : MethodName := ⟨RX4, "liking", "(III)I"⟩
abbrev cX4_noseOf : ByteArray := prog_1_method_32_code
def yX4_noseOf : MethodName := ⟨RX4, "noseOf", "(II)I"⟩
abbrev cX4_rivalsOf : ByteArray := prog_1_method_33_code
def yX4_rivalsOf : MethodName := ⟨RX4, "rivalsOf", "(II)I"⟩
abbrev cX4_allLedWith : ByteArray := prog_1_method_34_code
def yX4_allLedWith : MethodName := ⟨RX4, "allLedWith", "(I)Z"⟩
abbrev cX4_imageCourse : ByteArray := prog_1_method_35_code
def yX4_imageCourse : MethodName := ⟨RX4, "imageCourse", "(I)LOvenNoses$Course;"⟩
abbrev cX4_dividedUp : ByteArray := prog_1_method_36_code
def yX4_dividedUp : MethodName := ⟨RX4, "dividedUp", "(II)I"⟩
abbrev cX4_commonDivisor : ByteArray := prog_1_method_37_code
def yX4_commonDivisor : MethodName := ⟨RX4, "commonDivisor", "(II)I"⟩
abbrev cX4_asDough : ByteArray := prog_1_method_38_code
def yX4_asDough : MethodName := ⟨RX4, "asDough", "(I)I"⟩
abbrev cX4_asCake : ByteArray := prog_1_method_39_code
def yX4_asCake : MethodName := ⟨RX4, "asCake", "(I)I"⟩
abbrev cX4_asHerring : ByteArray := prog_1_method_40_code
def yX4_asHerring : MethodName := ⟨RX4, "asHerring", "(I)I"⟩
abbrev cX4_asBride : ByteArray := prog_1_method_41_code
def yX4_asBride : MethodName := ⟨RX4, "asBride", "(I)I"⟩
abbrev cX4_asWidow : ByteArray := prog_1_method_42_code
def yX4_asWidow : MethodName := ⟨RX4, "asWidow", "(I)I"⟩
abbrev cX4_asSniff : ByteArray := prog_1_method_43_code
def yX4_asSniff : MethodName := ⟨RX4, "asSniff", "(I)I"⟩
def RX5 : String := "OvenNosesModel"
def TX5 : u_T := fun k => match k with
  | 0 => ("OvenNosesModel", "trace", "J", false)
  | 1 => ("OvenNosesModel", "text", "[I", true)
  | 2 => ("OvenNosesModel", "typed", "I", false)
  | 3 => ("OvenNosesModel", "told", "[I", true)
  | 4 => ("OvenNosesModel", "draft", "[I", true)
  | 5 => ("OvenNosesModel", "s", "[I", true)
  | 6 => ("OvenNosesModel", "images", "[I", true)
  | 7 => ("OvenNosesModel", "kept", "[Z", true)
  | 8 => ("OvenNosesModel", "notes", "[I", true)
  | 9 => ("OvenNosesModel", "noted", "I", false)
  | 10 => ("OvenNosesModel", "at", "I", false)
  | 11 => ("OvenNosesModel", "sort", "I", false)
  | 12 => ("OvenNosesModel", "start", "I", false)
  | 13 => ("OvenNosesModel", "value", "I", false)
  | 14 => ("OvenNosesModel", "vanillaIn", "I", false)
  | 15 => ("OvenNosesModel", "held", "[I", true)
  | _ => ("OvenNosesModel", "soonest", "[I", true)
def tyX5 : Nat → FieldType := fun k => match k with
  | 0 => .long
  | 1 => .array .int
  | 2 => .int
  | 3 => .array .int
  | 4 => .array .int
  | 5 => .array .int
  | 6 => .array .int
  | 7 => .array .boolean
  | 8 => .array .int
  | 9 => .int
  | 10 => .int
  | 11 => .int
  | 12 => .int
  | 13 => .int
  | 14 => .int
  | 15 => .array .int
  | _ => .array .int
abbrev wsX50 : List Cond := u_ws RX5 TX5 17
theorem nmX5 : ∀ a, a < 17 → ∀ b, b < 17 → a ≠ b → (TX5 a).2.1 ≠ (TX5 b).2.1 := by decide +kernel
theorem tyX5_ok : ∀ k, k < 17 → parseFieldDescriptor (TX5 k).2.2.1 = some (tyX5 k) := by decide +kernel
abbrev cX5_init : ByteArray := prog_7_method_1_code
def yX5_init : MethodName := ⟨RX5, "<init>", "()V"⟩
abbrev cX5_in : ByteArray := prog_7_method_3_code
def yX5_in : MethodName := ⟨RX5, "in", "(III)Z"⟩
abbrev cX5_isOven : ByteArray := prog_7_method_4_code
def yX5_isOven : MethodName := ⟨RX5, "isOven", "(I)Z"⟩
abbrev cX5_isDough : ByteArray := prog_7_method_5_code
def yX5_isDough : MethodName := ⟨RX5, "isDough", "(I)Z"⟩
abbrev cX5_isShut : ByteArray := prog_7_method_6_code
def yX5_isShut : MethodName := ⟨RX5, "isShut", "(I)Z"⟩
abbrev cX5_type : ByteArray := prog_7_method_7_code
def yX5_type : MethodName := ⟨RX5, "type", "(I)I"⟩
abbrev cX5_clear : ByteArray := prog_7_method_8_code
def yX5_clear : MethodName := ⟨RX5, "clear", "()I"⟩
abbrev cX5_letterAt : ByteArray := prog_7_method_9_code
def yX5_letterAt : MethodName := ⟨RX5, "letterAt", "(I)I"⟩
abbrev cX5_isLetter : ByteArray := prog_7_method_10_code
def yX5_isLetter : MethodName := ⟨RX5, "isLetter", "(I)Z"⟩
abbrev cX5_isDigit : ByteArray := prog_7_method_11_code
def yX5_isDigit : MethodName := ⟨RX5, "isDigit", "(I)Z"⟩
abbrev cX5_token : ByteArray := prog_7_method_12_code
def yX5_token : MethodName := ⟨RX5, "token", "()V"⟩
abbrev cX5_number : ByteArray := prog_7_method_13_code
def yX5_number : MethodName := ⟨RX5, "number", "(III)Z"⟩
abbrev cX5_readsItem : ByteArray := prog_7_method_14_code
def yX5_readsItem : MethodName := ⟨RX5, "readsItem", "()Z"⟩
abbrev cX5_reads : ByteArray := prog_7_method_15_code
def yX5_reads : MethodName := ⟨RX5, "reads", "()Z"⟩
abbrev cX5_begins : ByteArray := prog_7_method_16_code
def yX5_begins : MethodName := ⟨RX5, "begins", "()V"⟩
abbrev cX5_quarter : ByteArray := prog_7_method_17_code
def yX5_quarter : MethodName := ⟨RX5, "quarter", "()I"⟩
abbrev cX5_ones : ByteArray := prog_7_method_18_code
def yX5_ones : MethodName := ⟨RX5, "ones", "(I)I"⟩
abbrev cX5_whereAll : ByteArray := prog_7_method_19_code
def yX5_whereAll : MethodName := ⟨RX5, "whereAll", "(I)I"⟩
abbrev cX5_hot : ByteArray := prog_7_method_20_code
def yX5_hot : MethodName := ⟨RX5, "hot", "(I)I"⟩
abbrev cX5_oven : ByteArray := prog_7_method_21_code
def yX5_oven : MethodName := ⟨RX5, "oven", "(II)I"⟩
abbrev cX5_smellOf : ByteArray := prog_7_method_22_code
def yX5_smellOf : MethodName := ⟨RX5, "smellOf", "(II)I"⟩
abbrev cX5_noseOf : ByteArray := prog_7_method_23_code
def yX5_noseOf : MethodName := ⟨RX5, "noseOf", "(II)I"⟩
abbrev cX5_isOut : ByteArray := prog_7_method_24_code
def yX5_isOut : MethodName := ⟨RX5, "isOut", "(I)Z"⟩
abbrev cX5_dough : ByteArray := prog_7_method_25_code
def yX5_dough : MethodName := ⟨RX5, "dough", "(II)I"⟩
abbrev cX5_smell : ByteArray := prog_7_method_26_code
def yX5_smell : MethodName := ⟨RX5, "smell", "(II)I"⟩
abbrev cX5_keeps : ByteArray := prog_7_method_27_code
def yX5_keeps : MethodName := ⟨RX5, "keeps", "()V"⟩
abbrev cX5_mayGo : ByteArray := prog_7_method_28_code
def yX5_mayGo : MethodName := ⟨RX5, "mayGo", "(I)Z"⟩
abbrev cX5_follows : ByteArray := prog_7_method_29_code
def yX5_follows : MethodName := ⟨RX5, "follows", "(I)I"⟩
abbrev cX5_puts : ByteArray := prog_7_method_30_code
def yX5_puts : MethodName := ⟨RX5, "puts", "(II)I"⟩
abbrev cX5_passes : ByteArray := prog_7_method_31_code
def yX5_passes : MethodName := ⟨RX5, "passes", "()I"⟩
abbrev cX5_minutes : ByteArray := prog_7_method_32_code
def yX5_minutes : MethodName := ⟨RX5, "minutes", "(I)I"⟩
abbrev cX5_shuts : ByteArray := prog_7_method_33_code
def yX5_shuts : MethodName := ⟨RX5, "shuts", "(II)I"⟩
abbrev cX5_undo : ByteArray := prog_7_method_34_code
def yX5_undo : MethodName := ⟨RX5, "undo", "()I"⟩
abbrev cX5_now : ByteArray := prog_7_method_35_code
def yX5_now : MethodName := ⟨RX5, "now", "(I)I"⟩
abbrev cX5_holds : ByteArray := prog_7_method_36_code
def yX5_holds : MethodName := ⟨RX5, "holds", "()V"⟩
abbrev cX5_lets : ByteArray := prog_7_method_37_code
def yX5_lets : MethodName := ⟨RX5, "lets", "()V"⟩
abbrev cX5_when : ByteArray := prog_7_method_38_code
def yX5_when : MethodName := ⟨RX5, "when", "(I)I"⟩
abbrev cX5_moved : ByteArray := prog_7_method_39_code
def yX5_moved : MethodName := ⟨RX5, "moved", "(I)I"⟩
abbrev cX5_doneBy : ByteArray := prog_7_method_40_code
def yX5_doneBy : MethodName := ⟨RX5, "doneBy", "(IIII)I"⟩
abbrev cX5_reckons : ByteArray := prog_7_method_41_code
def yX5_reckons : MethodName := ⟨RX5, "reckons", "(IIII)V"⟩
abbrev cX5_soonestOf : ByteArray := prog_7_method_42_code
def yX5_soonestOf : MethodName := ⟨RX5, "soonestOf", "(I)I"⟩
abbrev cX5_order : ByteArray := prog_7_method_43_code
def yX5_order : MethodName := ⟨RX5, "order", "(III)I"⟩
abbrev cX5_fire : ByteArray := prog_7_method_44_code
def yX5_fire : MethodName := ⟨RX5, "fire", "(II)I"⟩
abbrev cX5_odds : ByteArray := prog_7_method_45_code
def yX5_odds : MethodName := ⟨RX5, "odds", "(IIII)I"⟩
abbrev cX5_led : ByteArray := prog_7_method_46_code
def yX5_led : MethodName := ⟨RX5, "led", "(II)I"⟩
abbrev cX5_forget : ByteArray := prog_7_method_47_code
def yX5_forget : MethodName := ⟨RX5, "forget", "()I"⟩
abbrev cX5_vanilla : ByteArray := prog_7_method_48_code
def yX5_vanilla : MethodName := ⟨RX5, "vanilla", "()I"⟩
abbrev cX5_mark : ByteArray := prog_7_method_49_code
def yX5_mark : MethodName := ⟨RX5, "mark", "(II)I"⟩
abbrev cX5_keep : ByteArray := prog_7_method_50_code
def yX5_keep : MethodName := ⟨RX5, "keep", "(I)I"⟩
abbrev cX5_back : ByteArray := prog_7_method_51_code
def yX5_back : MethodName := ⟨RX5, "back", "(I)I"⟩
abbrev cX5_count : ByteArray := prog_7_method_52_code
def yX5_count : MethodName := ⟨RX5, "count", "(I)I"⟩
abbrev cX5_trace : ByteArray := prog_7_method_53_code
def yX5_trace : MethodName := ⟨RX5, "trace", "()J"⟩
def RJ6 : String := "java/lang/Integer"
def TJ6 : u_T := fun k => match k with
  | _ => ("", "", "", false)
def tyJ6 : Nat → FieldType := fun k => match k with
  | _ => .int
abbrev wsJ60 : List Cond := u_ws RJ6 TJ6 0
theorem nmJ6 : ∀ a, a < 0 → ∀ b, b < 0 → a ≠ b → (TJ6 a).2.1 ≠ (TJ6 b).2.1 := by decide +kernel
theorem tyJ6_ok : ∀ k, k < 0 → parseFieldDescriptor (TJ6 k).2.2.1 = some (tyJ6 k) := by decide +kernel
abbrev cJ6_bitCount_0f7a4 : ByteArray := prog_8_method_49_code
def yJ6_bitCount_0f7a4 : MethodName := ⟨RJ6, "bitCount", "(I)I"⟩
def RJ9 : String := "java/lang/Math"
def TJ9 : u_T := fun k => match k with
  | _ => ("", "", "", false)
def tyJ9 : Nat → FieldType := fun k => match k with
  | _ => .int
abbrev wsJ90 : List Cond := u_ws RJ9 TJ9 0
theorem nmJ9 : ∀ a, a < 0 → ∀ b, b < 0 → a ≠ b → (TJ9 a).2.1 ≠ (TJ9 b).2.1 := by decide +kernel
theorem tyJ9_ok : ∀ k, k < 0 → parseFieldDescriptor (TJ9 k).2.2.1 = some (tyJ9 k) := by decide +kernel
abbrev cJ9_max_7cf53 : ByteArray := prog_9_method_65_code
def yJ9_max_7cf53 : MethodName := ⟨RJ9, "max", "(II)I"⟩
abbrev cJ9_min_7cf53 : ByteArray := prog_9_method_69_code
def yJ9_min_7cf53 : MethodName := ⟨RJ9, "min", "(II)I"⟩
def RJ10 : String := "java/lang/System"
def TJ10 : u_T := fun k => match k with
  | _ => ("", "", "", false)
def tyJ10 : Nat → FieldType := fun k => match k with
  | _ => .int
abbrev wsJ100 : List Cond := u_ws RJ10 TJ10 0
theorem nmJ10 : ∀ a, a < 0 → ∀ b, b < 0 → a ≠ b → (TJ10 a).2.1 ≠ (TJ10 b).2.1 := by decide +kernel
theorem tyJ10_ok : ∀ k, k < 0 → parseFieldDescriptor (TJ10 k).2.2.1 = some (tyJ10 k) := by decide +kernel
def RL : String := "OvenNosesLaw"
abbrev cL_law : ByteArray := code
def yL_law : MethodName := ⟨RL, "law", "([I)Z"⟩
-- the good words
def GG : List Cond := lw_tbl.filter goodWord
theorem GG_in {w : Cond} (h : w ∈ GG) : w ∈ lw_tbl := (List.mem_filter.mp h).1
theorem GG_good {w : Cond} (h : w ∈ GG) : goodWord w = true := (List.mem_filter.mp h).2
theorem in_places {ws : List Cond} (ps : List Nat) (hp : ws = ps.filterMap (fun i => lw_tbl[i]?)) (hg : ws.all goodWord = true) : ∀ w ∈ ws, w ∈ GG := by
  intro w hw
  refine List.mem_filter.mpr ⟨?_, List.all_eq_true.mp hg w hw⟩
  rw [hp] at hw
  obtain ⟨i, -, hi⟩ := List.mem_filterMap.mp hw
  exact List.mem_of_getElem? hi
theorem inX0 : ∀ w ∈ u_ws RX0 TX0 2, w ∈ GG := in_places [122, 124] (by decide +kernel) (by decide +kernel)
theorem inX1 : ∀ w ∈ u_ws RX1 TX1 6, w ∈ GG := in_places [139, 141, 143, 145, 147, 149] (by decide +kernel) (by decide +kernel)
theorem inX2 : ∀ w ∈ u_ws RX2 TX2 6, w ∈ GG := in_places [77, 79, 81, 83, 85, 87] (by decide +kernel) (by decide +kernel)
theorem inX3 : ∀ w ∈ u_ws RX3 TX3 4, w ∈ GG := in_places [101, 103, 105, 107] (by decide +kernel) (by decide +kernel)
theorem inX4 : ∀ w ∈ u_ws RX4 TX4 13, w ∈ GG := in_places [165, 167, 169, 171, 173, 175, 177, 179, 181, 183, 185, 187, 189] (by decide +kernel) (by decide +kernel)
theorem inX5 : ∀ w ∈ u_ws RX5 TX5 17, w ∈ GG := in_places [648, 650, 652, 654, 656, 658, 660, 662, 664, 666, 668, 670, 672, 674, 676, 678, 680] (by decide +kernel) (by decide +kernel)
theorem q0 : (.selects RX2 yX2_nextToken yX2_nextToken : Cond) ∈ GG := List.mem_filter.mpr ⟨List.mem_of_getElem? (i := 0) (by decide +kernel), by decide +kernel⟩
theorem q1 : (.selects RX2 yX2_takeLetters yX2_takeLetters : Cond) ∈ GG := List.mem_filter.mpr ⟨List.mem_of_getElem? (i := 1) (by decide +kernel), by decide +kernel⟩
theorem q2 : (.selects RX2 yX2_takeNumber yX2_takeNumber : Cond) ∈ GG := List.mem_filter.mpr ⟨List.mem_of_getElem? (i := 2) (by decide +kernel), by decide +kernel⟩
theorem q3 : (.selects RX2 yX2_readItem yX2_readItem : Cond) ∈ GG := List.mem_filter.mpr ⟨List.mem_of_getElem? (i := 3) (by decide +kernel), by decide +kernel⟩
theorem q4 : (.selects RX2 yX2_readOvenNumbers yX2_readOvenNumbers : Cond) ∈ GG := List.mem_filter.mpr ⟨List.mem_of_getElem? (i := 4) (by decide +kernel), by decide +kernel⟩
theorem q5 : (.selects RX2 yX2_isNumberWithin yX2_isNumberWithin : Cond) ∈ GG := List.mem_filter.mpr ⟨List.mem_of_getElem? (i := 5) (by decide +kernel), by decide +kernel⟩
theorem q6 : (.selects RX2 yX2_readDoughNumbers yX2_readDoughNumbers : Cond) ∈ GG := List.mem_filter.mpr ⟨List.mem_of_getElem? (i := 6) (by decide +kernel), by decide +kernel⟩
theorem q7 : (.selects RX0 yX0_base yX0_base : Cond) ∈ GG := List.mem_filter.mpr ⟨List.mem_of_getElem? (i := 7) (by decide +kernel), by decide +kernel⟩
theorem q8 : (.selects RX4 yX4_isOut yX4_isOut : Cond) ∈ GG := List.mem_filter.mpr ⟨List.mem_of_getElem? (i := 8) (by decide +kernel), by decide +kernel⟩
theorem q9 : (.selects RX4 yX4_noseOf yX4_noseOf : Cond) ∈ GG := List.mem_filter.mpr ⟨List.mem_of_getElem? (i := 9) (by decide +kernel), by decide +kernel⟩
theorem q10 : (.selects RX4 yX4_smellOf yX4_smellOf : Cond) ∈ GG := List.mem_filter.mpr ⟨List.mem_of_getElem? (i := 10) (by decide +kernel), by decide +kernel⟩
theorem q11 : (.selects RX4 yX4_liking yX4_liking : Cond) ∈ GG := List.mem_filter.mpr ⟨List.mem_of_getElem? (i := 11) (by decide +kernel), by decide +kernel⟩
theorem q12 : (.selects RX4 yX4_mayGoIn yX4_mayGoIn : Cond) ∈ GG := List.mem_filter.mpr ⟨List.mem_of_getElem? (i := 12) (by decide +kernel), by decide +kernel⟩
theorem q13 : (.selects RX4 yX4_outAndGoneSour yX4_outAndGoneSour : Cond) ∈ GG := List.mem_filter.mpr ⟨List.mem_of_getElem? (i := 13) (by decide +kernel), by decide +kernel⟩
theorem q14 : (.selects RX1 yX1_extend yX1_extend : Cond) ∈ GG := List.mem_filter.mpr ⟨List.mem_of_getElem? (i := 14) (by decide +kernel), by decide +kernel⟩
theorem q15 : (.selects RX1 yX1_weigh yX1_weigh : Cond) ∈ GG := List.mem_filter.mpr ⟨List.mem_of_getElem? (i := 15) (by decide +kernel), by decide +kernel⟩
theorem q16 : (.selects RX4 yX4_rivalsOf yX4_rivalsOf : Cond) ∈ GG := List.mem_filter.mpr ⟨List.mem_of_getElem? (i := 16) (by decide +kernel), by decide +kernel⟩
theorem q17 : (.selects RX4 yX4_allLedWith yX4_allLedWith : Cond) ∈ GG := List.mem_filter.mpr ⟨List.mem_of_getElem? (i := 17) (by decide +kernel), by decide +kernel⟩
theorem q18 : (.selects RX4 yX4_asDough yX4_asDough : Cond) ∈ GG := List.mem_filter.mpr ⟨List.mem_of_getElem? (i := 18) (by decide +kernel), by decide +kernel⟩
theorem q19 : (.selects RX4 yX4_asCake yX4_asCake : Cond) ∈ GG := List.mem_filter.mpr ⟨List.mem_of_getElem? (i := 19) (by decide +kernel), by decide +kernel⟩
theorem q20 : (.selects RX4 yX4_asHerring yX4_asHerring : Cond) ∈ GG := List.mem_filter.mpr ⟨List.mem_of_getElem? (i := 20) (by decide +kernel), by decide +kernel⟩
theorem q21 : (.selects RX4 yX4_asBride yX4_asBride : Cond) ∈ GG := List.mem_filter.mpr ⟨List.mem_of_getElem? (i := 21) (by decide +kernel), by decide +kernel⟩
theorem q22 : (.selects RX4 yX4_asWidow yX4_asWidow : Cond) ∈ GG := List.mem_filter.mpr ⟨List.mem_of_getElem? (i := 22) (by decide +kernel), by decide +kernel⟩
theorem q23 : (.selects RX4 yX4_asSniff yX4_asSniff : Cond) ∈ GG := List.mem_filter.mpr ⟨List.mem_of_getElem? (i := 23) (by decide +kernel), by decide +kernel⟩
theorem q24 : (.selects RX4 yX4_imageCourse yX4_imageCourse : Cond) ∈ GG := List.mem_filter.mpr ⟨List.mem_of_getElem? (i := 24) (by decide +kernel), by decide +kernel⟩
theorem q25 : (.selects RX5 yX5_reads yX5_reads : Cond) ∈ GG := List.mem_filter.mpr ⟨List.mem_of_getElem? (i := 25) (by decide +kernel), by decide +kernel⟩
theorem q26 : (.selects RX5 yX5_token yX5_token : Cond) ∈ GG := List.mem_filter.mpr ⟨List.mem_of_getElem? (i := 26) (by decide +kernel), by decide +kernel⟩
theorem q27 : (.selects RX5 yX5_letterAt yX5_letterAt : Cond) ∈ GG := List.mem_filter.mpr ⟨List.mem_of_getElem? (i := 27) (by decide +kernel), by decide +kernel⟩
theorem q28 : (.selects RX5 yX5_readsItem yX5_readsItem : Cond) ∈ GG := List.mem_filter.mpr ⟨List.mem_of_getElem? (i := 28) (by decide +kernel), by decide +kernel⟩
theorem q29 : (.selects RX5 yX5_number yX5_number : Cond) ∈ GG := List.mem_filter.mpr ⟨List.mem_of_getElem? (i := 29) (by decide +kernel), by decide +kernel⟩
theorem q30 : (.selects RX5 yX5_begins yX5_begins : Cond) ∈ GG := List.mem_filter.mpr ⟨List.mem_of_getElem? (i := 30) (by decide +kernel), by decide +kernel⟩
theorem q31 : (.selects RX5 yX5_isOven yX5_isOven : Cond) ∈ GG := List.mem_filter.mpr ⟨List.mem_of_getElem? (i := 31) (by decide +kernel), by decide +kernel⟩
theorem q32 : (.selects RX5 yX5_whereAll yX5_whereAll : Cond) ∈ GG := List.mem_filter.mpr ⟨List.mem_of_getElem? (i := 32) (by decide +kernel), by decide +kernel⟩
theorem q33 : (.selects RX5 yX5_hot yX5_hot : Cond) ∈ GG := List.mem_filter.mpr ⟨List.mem_of_getElem? (i := 33) (by decide +kernel), by decide +kernel⟩
theorem q34 : (.selects RX5 yX5_isShut yX5_isShut : Cond) ∈ GG := List.mem_filter.mpr ⟨List.mem_of_getElem? (i := 34) (by decide +kernel), by decide +kernel⟩
theorem q35 : (.selects RX5 yX5_isDough yX5_isDough : Cond) ∈ GG := List.mem_filter.mpr ⟨List.mem_of_getElem? (i := 35) (by decide +kernel), by decide +kernel⟩
theorem q36 : (.selects RX5 yX5_isOut yX5_isOut : Cond) ∈ GG := List.mem_filter.mpr ⟨List.mem_of_getElem? (i := 36) (by decide +kernel), by decide +kernel⟩
theorem q37 : (.selects RX5 yX5_noseOf yX5_noseOf : Cond) ∈ GG := List.mem_filter.mpr ⟨List.mem_of_getElem? (i := 37) (by decide +kernel), by decide +kernel⟩
theorem q38 : (.selects RX5 yX5_smellOf yX5_smellOf : Cond) ∈ GG := List.mem_filter.mpr ⟨List.mem_of_getElem? (i := 38) (by decide +kernel), by decide +kernel⟩
theorem q39 : (.selects RX5 yX5_mayGo yX5_mayGo : Cond) ∈ GG := List.mem_filter.mpr ⟨List.mem_of_getElem? (i := 39) (by decide +kernel), by decide +kernel⟩
theorem q40 : (.selects RX5 yX5_keeps yX5_keeps : Cond) ∈ GG := List.mem_filter.mpr ⟨List.mem_of_getElem? (i := 40) (by decide +kernel), by decide +kernel⟩
theorem q41 : (.selects RX5 yX5_passes yX5_passes : Cond) ∈ GG := List.mem_filter.mpr ⟨List.mem_of_getElem? (i := 41) (by decide +kernel), by decide +kernel⟩
theorem q42 : (.selects RX5 yX5_holds yX5_holds : Cond) ∈ GG := List.mem_filter.mpr ⟨List.mem_of_getElem? (i := 42) (by decide +kernel), by decide +kernel⟩
theorem q43 : (.selects RX5 yX5_lets yX5_lets : Cond) ∈ GG := List.mem_filter.mpr ⟨List.mem_of_getElem? (i := 43) (by decide +kernel), by decide +kernel⟩
theorem q44 : (.selects RX5 yX5_reckons yX5_reckons : Cond) ∈ GG := List.mem_filter.mpr ⟨List.mem_of_getElem? (i := 44) (by decide +kernel), by decide +kernel⟩
theorem q45 : (.selects RX5 yX5_doneBy yX5_doneBy : Cond) ∈ GG := List.mem_filter.mpr ⟨List.mem_of_getElem? (i := 45) (by decide +kernel), by decide +kernel⟩
theorem q46 : (.selects RX5 yX5_soonestOf yX5_soonestOf : Cond) ∈ GG := List.mem_filter.mpr ⟨List.mem_of_getElem? (i := 46) (by decide +kernel), by decide +kernel⟩
theorem q47 : (.initialized RL : Cond) ∈ GG := List.mem_filter.mpr ⟨List.mem_of_getElem? (i := 47) (by decide +kernel), by decide +kernel⟩
theorem q48 : (.initialized RX4 : Cond) ∈ GG := List.mem_filter.mpr ⟨List.mem_of_getElem? (i := 48) (by decide +kernel), by decide +kernel⟩
theorem q49 : (.initialized RX2 : Cond) ∈ GG := List.mem_filter.mpr ⟨List.mem_of_getElem? (i := 49) (by decide +kernel), by decide +kernel⟩
theorem q50 : (.initialized RX3 : Cond) ∈ GG := List.mem_filter.mpr ⟨List.mem_of_getElem? (i := 50) (by decide +kernel), by decide +kernel⟩
theorem q51 : (.initialized RX0 : Cond) ∈ GG := List.mem_filter.mpr ⟨List.mem_of_getElem? (i := 51) (by decide +kernel), by decide +kernel⟩
theorem q52 : (.initialized RX1 : Cond) ∈ GG := List.mem_filter.mpr ⟨List.mem_of_getElem? (i := 52) (by decide +kernel), by decide +kernel⟩
theorem q53 : (.initialized RX5 : Cond) ∈ GG := List.mem_filter.mpr ⟨List.mem_of_getElem? (i := 53) (by decide +kernel), by decide +kernel⟩
theorem q54 : (.initialized RJ9 : Cond) ∈ GG := List.mem_filter.mpr ⟨List.mem_of_getElem? (i := 54) (by decide +kernel), by decide +kernel⟩
theorem q55 : (.initialized RJ6 : Cond) ∈ GG := List.mem_filter.mpr ⟨List.mem_of_getElem? (i := 55) (by decide +kernel), by decide +kernel⟩
theorem q56 : (.initialized RJ10 : Cond) ∈ GG := List.mem_filter.mpr ⟨List.mem_of_getElem? (i := 56) (by decide +kernel), by decide +kernel⟩
theorem q57 : (.classLink RL 7 RX4 : Cond) ∈ GG := List.mem_filter.mpr ⟨List.mem_of_getElem? (i := 57) (by decide +kernel), by decide +kernel⟩
theorem q58 : (.instantiable RX4 13 : Cond) ∈ GG := List.mem_filter.mpr ⟨List.mem_of_getElem? (i := 58) (by decide +kernel), by decide +kernel⟩
theorem q59 : (.methodLink RL 9 yX4_init : Cond) ∈ GG := List.mem_filter.mpr ⟨List.mem_of_getElem? (i := 59) (by decide +kernel), by decide +kernel⟩
theorem q60 : (.instanceMethod yX4_init : Cond) ∈ GG := List.mem_filter.mpr ⟨List.mem_of_getElem? (i := 60) (by decide +kernel), by decide +kernel⟩
theorem q61 : (.code yX4_init cX4_init 1 none : Cond) ∈ GG := List.mem_filter.mpr ⟨List.mem_of_getElem? (i := 61) (by decide +kernel), by decide +kernel⟩
theorem q62 : (.methodLink RX4 3 objectInit : Cond) ∈ GG := List.mem_filter.mpr ⟨List.mem_of_getElem? (i := 62) (by decide +kernel), by decide +kernel⟩
theorem q63 : (.instanceMethod objectInit : Cond) ∈ GG := List.mem_filter.mpr ⟨List.mem_of_getElem? (i := 63) (by decide +kernel), by decide +kernel⟩
theorem q64 : (.code objectInit ⟨#[0xb1]⟩ 1 none : Cond) ∈ GG := List.mem_filter.mpr ⟨List.mem_of_getElem? (i := 64) (by decide +kernel), by decide +kernel⟩
theorem q65 : (.classLink RX4 9 RX2 : Cond) ∈ GG := List.mem_filter.mpr ⟨List.mem_of_getElem? (i := 65) (by decide +kernel), by decide +kernel⟩
theorem q66 : (.instantiable RX2 6 : Cond) ∈ GG := List.mem_filter.mpr ⟨List.mem_of_getElem? (i := 66) (by decide +kernel), by decide +kernel⟩
theorem q67 : (.methodLink RX4 11 yX2_init : Cond) ∈ GG := List.mem_filter.mpr ⟨List.mem_of_getElem? (i := 67) (by decide +kernel), by decide +kernel⟩
theorem q68 : (.instanceMethod yX2_init : Cond) ∈ GG := List.mem_filter.mpr ⟨List.mem_of_getElem? (i := 68) (by decide +kernel), by decide +kernel⟩
theorem q69 : (.code yX2_init cX2_init 1 none : Cond) ∈ GG := List.mem_filter.mpr ⟨List.mem_of_getElem? (i := 69) (by decide +kernel), by decide +kernel⟩
theorem q70 : (.methodLink RX2 3 objectInit : Cond) ∈ GG := List.mem_filter.mpr ⟨List.mem_of_getElem? (i := 70) (by decide +kernel), by decide +kernel⟩
theorem q71 : (.fieldLink RX2 11 RX2 "bytes" "[I" : Cond) ∈ GG := List.mem_filter.mpr ⟨List.mem_of_getElem? (i := 71) (by decide +kernel), by decide +kernel⟩
theorem q72 : (.fieldLink RX2 15 RX2 "byteCount" "I" : Cond) ∈ GG := List.mem_filter.mpr ⟨List.mem_of_getElem? (i := 72) (by decide +kernel), by decide +kernel⟩
theorem q73 : (.fieldLink RX2 19 RX2 "place" "I" : Cond) ∈ GG := List.mem_filter.mpr ⟨List.mem_of_getElem? (i := 73) (by decide +kernel), by decide +kernel⟩
theorem q74 : (.fieldLink RX2 30 RX2 "token" "I" : Cond) ∈ GG := List.mem_filter.mpr ⟨List.mem_of_getElem? (i := 74) (by decide +kernel), by decide +kernel⟩
theorem q75 : (.fieldLink RX2 37 RX2 "tokenStart" "I" : Cond) ∈ GG := List.mem_filter.mpr ⟨List.mem_of_getElem? (i := 75) (by decide +kernel), by decide +kernel⟩
theorem q76 : (.fieldLink RX2 40 RX2 "tokenValue" "I" : Cond) ∈ GG := List.mem_filter.mpr ⟨List.mem_of_getElem? (i := 76) (by decide +kernel), by decide +kernel⟩
theorem q90 : (.arrayClass .int : Cond) ∈ GG := List.mem_filter.mpr ⟨List.mem_of_getElem? (i := 90) (by decide +kernel), by decide +kernel⟩
theorem q91 : (.classLink RX4 16 RX3 : Cond) ∈ GG := List.mem_filter.mpr ⟨List.mem_of_getElem? (i := 91) (by decide +kernel), by decide +kernel⟩
theorem q92 : (.instantiable RX3 4 : Cond) ∈ GG := List.mem_filter.mpr ⟨List.mem_of_getElem? (i := 92) (by decide +kernel), by decide +kernel⟩
theorem q93 : (.methodLink RX4 18 yX3_init : Cond) ∈ GG := List.mem_filter.mpr ⟨List.mem_of_getElem? (i := 93) (by decide +kernel), by decide +kernel⟩
theorem q94 : (.instanceMethod yX3_init : Cond) ∈ GG := List.mem_filter.mpr ⟨List.mem_of_getElem? (i := 94) (by decide +kernel), by decide +kernel⟩
theorem q95 : (.code yX3_init cX3_init 1 none : Cond) ∈ GG := List.mem_filter.mpr ⟨List.mem_of_getElem? (i := 95) (by decide +kernel), by decide +kernel⟩
theorem q96 : (.methodLink RX3 3 objectInit : Cond) ∈ GG := List.mem_filter.mpr ⟨List.mem_of_getElem? (i := 96) (by decide +kernel), by decide +kernel⟩
theorem q97 : (.fieldLink RX3 9 RX3 "ovenNumbers" "[I" : Cond) ∈ GG := List.mem_filter.mpr ⟨List.mem_of_getElem? (i := 97) (by decide +kernel), by decide +kernel⟩
theorem q98 : (.fieldLink RX3 15 RX3 "doughNumbers" "[I" : Cond) ∈ GG := List.mem_filter.mpr ⟨List.mem_of_getElem? (i := 98) (by decide +kernel), by decide +kernel⟩
theorem q99 : (.fieldLink RX3 18 RX3 "ovenCount" "I" : Cond) ∈ GG := List.mem_filter.mpr ⟨List.mem_of_getElem? (i := 99) (by decide +kernel), by decide +kernel⟩
theorem q100 : (.fieldLink RX3 22 RX3 "doughCount" "I" : Cond) ∈ GG := List.mem_filter.mpr ⟨List.mem_of_getElem? (i := 100) (by decide +kernel), by decide +kernel⟩
theorem q110 : (.classLink RX4 26 RX0 : Cond) ∈ GG := List.mem_filter.mpr ⟨List.mem_of_getElem? (i := 110) (by decide +kernel), by decide +kernel⟩
theorem q111 : (.instantiable RX0 2 : Cond) ∈ GG := List.mem_filter.mpr ⟨List.mem_of_getElem? (i := 111) (by decide +kernel), by decide +kernel⟩
theorem q112 : (.methodLink RX4 28 yX0_init : Cond) ∈ GG := List.mem_filter.mpr ⟨List.mem_of_getElem? (i := 112) (by decide +kernel), by decide +kernel⟩
theorem q113 : (.instanceMethod yX0_init : Cond) ∈ GG := List.mem_filter.mpr ⟨List.mem_of_getElem? (i := 113) (by decide +kernel), by decide +kernel⟩
theorem q114 : (.code yX0_init cX0_init 1 none : Cond) ∈ GG := List.mem_filter.mpr ⟨List.mem_of_getElem? (i := 114) (by decide +kernel), by decide +kernel⟩
theorem q115 : (.methodLink RX0 5 objectInit : Cond) ∈ GG := List.mem_filter.mpr ⟨List.mem_of_getElem? (i := 115) (by decide +kernel), by decide +kernel⟩
theorem q116 : (.methodLink RX0 15 yX0_begin : Cond) ∈ GG := List.mem_filter.mpr ⟨List.mem_of_getElem? (i := 116) (by decide +kernel), by decide +kernel⟩
theorem q117 : (.instanceMethod yX0_begin : Cond) ∈ GG := List.mem_filter.mpr ⟨List.mem_of_getElem? (i := 117) (by decide +kernel), by decide +kernel⟩
theorem q118 : (.selects RX0 yX0_begin yX0_begin : Cond) ∈ GG := List.mem_filter.mpr ⟨List.mem_of_getElem? (i := 118) (by decide +kernel), by decide +kernel⟩
theorem q119 : (.code yX0_begin cX0_begin 2 none : Cond) ∈ GG := List.mem_filter.mpr ⟨List.mem_of_getElem? (i := 119) (by decide +kernel), by decide +kernel⟩
theorem q120 : (.fieldLink RX0 11 RX0 "rows" "[I" : Cond) ∈ GG := List.mem_filter.mpr ⟨List.mem_of_getElem? (i := 120) (by decide +kernel), by decide +kernel⟩
theorem q121 : (.fieldLink RX0 18 RX0 "knownSteps" "I" : Cond) ∈ GG := List.mem_filter.mpr ⟨List.mem_of_getElem? (i := 121) (by decide +kernel), by decide +kernel⟩
theorem q127 : (.classLink RX4 49 RX1 : Cond) ∈ GG := List.mem_filter.mpr ⟨List.mem_of_getElem? (i := 127) (by decide +kernel), by decide +kernel⟩
theorem q128 : (.instantiable RX1 6 : Cond) ∈ GG := List.mem_filter.mpr ⟨List.mem_of_getElem? (i := 128) (by decide +kernel), by decide +kernel⟩
theorem q129 : (.methodLink RX4 51 yX1_init : Cond) ∈ GG := List.mem_filter.mpr ⟨List.mem_of_getElem? (i := 129) (by decide +kernel), by decide +kernel⟩
theorem q130 : (.instanceMethod yX1_init : Cond) ∈ GG := List.mem_filter.mpr ⟨List.mem_of_getElem? (i := 130) (by decide +kernel), by decide +kernel⟩
theorem q131 : (.code yX1_init cX1_init 1 none : Cond) ∈ GG := List.mem_filter.mpr ⟨List.mem_of_getElem? (i := 131) (by decide +kernel), by decide +kernel⟩
theorem q132 : (.methodLink RX1 3 objectInit : Cond) ∈ GG := List.mem_filter.mpr ⟨List.mem_of_getElem? (i := 132) (by decide +kernel), by decide +kernel⟩
theorem q133 : (.fieldLink RX1 9 RX1 "row" "[I" : Cond) ∈ GG := List.mem_filter.mpr ⟨List.mem_of_getElem? (i := 133) (by decide +kernel), by decide +kernel⟩
theorem q134 : (.fieldLink RX1 15 RX1 "best" "[I" : Cond) ∈ GG := List.mem_filter.mpr ⟨List.mem_of_getElem? (i := 134) (by decide +kernel), by decide +kernel⟩
theorem q135 : (.fieldLink RX1 18 RX1 "bakingTimes" "[I" : Cond) ∈ GG := List.mem_filter.mpr ⟨List.mem_of_getElem? (i := 135) (by decide +kernel), by decide +kernel⟩
theorem q136 : (.fieldLink RX1 21 RX1 "bestLength" "I" : Cond) ∈ GG := List.mem_filter.mpr ⟨List.mem_of_getElem? (i := 136) (by decide +kernel), by decide +kernel⟩
theorem q137 : (.fieldLink RX1 31 RX1 "bestLastEnd" "I" : Cond) ∈ GG := List.mem_filter.mpr ⟨List.mem_of_getElem? (i := 137) (by decide +kernel), by decide +kernel⟩
theorem q138 : (.fieldLink RX1 34 RX1 "limit" "I" : Cond) ∈ GG := List.mem_filter.mpr ⟨List.mem_of_getElem? (i := 138) (by decide +kernel), by decide +kernel⟩
theorem q152 : (.fieldLink RX4 12 RX4 "script" "LOvenNoses$Script;" : Cond) ∈ GG := List.mem_filter.mpr ⟨List.mem_of_getElem? (i := 152) (by decide +kernel), by decide +kernel⟩
theorem q153 : (.fieldLink RX4 19 RX4 "told" "LOvenNoses$Told;" : Cond) ∈ GG := List.mem_filter.mpr ⟨List.mem_of_getElem? (i := 153) (by decide +kernel), by decide +kernel⟩
theorem q154 : (.fieldLink RX4 23 RX4 "draft" "LOvenNoses$Told;" : Cond) ∈ GG := List.mem_filter.mpr ⟨List.mem_of_getElem? (i := 154) (by decide +kernel), by decide +kernel⟩
theorem q155 : (.fieldLink RX4 29 RX4 "course" "LOvenNoses$Course;" : Cond) ∈ GG := List.mem_filter.mpr ⟨List.mem_of_getElem? (i := 155) (by decide +kernel), by decide +kernel⟩
theorem q156 : (.fieldLink RX4 33 RX4 "trial" "LOvenNoses$Course;" : Cond) ∈ GG := List.mem_filter.mpr ⟨List.mem_of_getElem? (i := 156) (by decide +kernel), by decide +kernel⟩
theorem q157 : (.fieldLink RX4 36 RX4 "imageZero" "LOvenNoses$Course;" : Cond) ∈ GG := List.mem_filter.mpr ⟨List.mem_of_getElem? (i := 157) (by decide +kernel), by decide +kernel⟩
theorem q158 : (.fieldLink RX4 39 RX4 "imageOne" "LOvenNoses$Course;" : Cond) ∈ GG := List.mem_filter.mpr ⟨List.mem_of_getElem? (i := 158) (by decide +kernel), by decide +kernel⟩
theorem q159 : (.fieldLink RX4 74 RX4 "keptImages" "I" : Cond) ∈ GG := List.mem_filter.mpr ⟨List.mem_of_getElem? (i := 159) (by decide +kernel), by decide +kernel⟩
theorem q160 : (.fieldLink RX4 42 RX4 "ledDoughs" "[I" : Cond) ∈ GG := List.mem_filter.mpr ⟨List.mem_of_getElem? (i := 160) (by decide +kernel), by decide +kernel⟩
theorem q161 : (.fieldLink RX4 46 RX4 "ledOvens" "[I" : Cond) ∈ GG := List.mem_filter.mpr ⟨List.mem_of_getElem? (i := 161) (by decide +kernel), by decide +kernel⟩
theorem q162 : (.fieldLink RX4 78 RX4 "ledCount" "I" : Cond) ∈ GG := List.mem_filter.mpr ⟨List.mem_of_getElem? (i := 162) (by decide +kernel), by decide +kernel⟩
theorem q163 : (.fieldLink RX4 52 RX4 "rowSearch" "LOvenNoses$RowSearch;" : Cond) ∈ GG := List.mem_filter.mpr ⟨List.mem_of_getElem? (i := 163) (by decide +kernel), by decide +kernel⟩
theorem q164 : (.fieldLink RX4 221 RX4 "traceSum" "J" : Cond) ∈ GG := List.mem_filter.mpr ⟨List.mem_of_getElem? (i := 164) (by decide +kernel), by decide +kernel⟩
theorem q192 : (.methodLink RL 13 yX4_type : Cond) ∈ GG := List.mem_filter.mpr ⟨List.mem_of_getElem? (i := 192) (by decide +kernel), by decide +kernel⟩
theorem q193 : (.instanceMethod yX4_type : Cond) ∈ GG := List.mem_filter.mpr ⟨List.mem_of_getElem? (i := 193) (by decide +kernel), by decide +kernel⟩
theorem q194 : (.selects RX4 yX4_type yX4_type : Cond) ∈ GG := List.mem_filter.mpr ⟨List.mem_of_getElem? (i := 194) (by decide +kernel), by decide +kernel⟩
theorem q195 : (.code yX4_type cX4_type 2 (some .int) : Cond) ∈ GG := List.mem_filter.mpr ⟨List.mem_of_getElem? (i := 195) (by decide +kernel), by decide +kernel⟩
theorem q196 : (.methodLink RX4 56 yX2_add : Cond) ∈ GG := List.mem_filter.mpr ⟨List.mem_of_getElem? (i := 196) (by decide +kernel), by decide +kernel⟩
theorem q197 : (.instanceMethod yX2_add : Cond) ∈ GG := List.mem_filter.mpr ⟨List.mem_of_getElem? (i := 197) (by decide +kernel), by decide +kernel⟩
theorem q198 : (.selects RX2 yX2_add yX2_add : Cond) ∈ GG := List.mem_filter.mpr ⟨List.mem_of_getElem? (i := 198) (by decide +kernel), by decide +kernel⟩
theorem q199 : (.code yX2_add cX2_add 2 (some .boolean) : Cond) ∈ GG := List.mem_filter.mpr ⟨List.mem_of_getElem? (i := 199) (by decide +kernel), by decide +kernel⟩
theorem q200 : (.methodLink RX4 60 yX2_length : Cond) ∈ GG := List.mem_filter.mpr ⟨List.mem_of_getElem? (i := 200) (by decide +kernel), by decide +kernel⟩
theorem q201 : (.instanceMethod yX2_length : Cond) ∈ GG := List.mem_filter.mpr ⟨List.mem_of_getElem? (i := 201) (by decide +kernel), by decide +kernel⟩
theorem q202 : (.selects RX2 yX2_length yX2_length : Cond) ∈ GG := List.mem_filter.mpr ⟨List.mem_of_getElem? (i := 202) (by decide +kernel), by decide +kernel⟩
theorem q203 : (.code yX2_length cX2_length 1 (some .int) : Cond) ∈ GG := List.mem_filter.mpr ⟨List.mem_of_getElem? (i := 203) (by decide +kernel), by decide +kernel⟩
theorem q204 : (.methodLink RL 18 yX4_clear : Cond) ∈ GG := List.mem_filter.mpr ⟨List.mem_of_getElem? (i := 204) (by decide +kernel), by decide +kernel⟩
theorem q205 : (.instanceMethod yX4_clear : Cond) ∈ GG := List.mem_filter.mpr ⟨List.mem_of_getElem? (i := 205) (by decide +kernel), by decide +kernel⟩
theorem q206 : (.selects RX4 yX4_clear yX4_clear : Cond) ∈ GG := List.mem_filter.mpr ⟨List.mem_of_getElem? (i := 206) (by decide +kernel), by decide +kernel⟩
theorem q207 : (.code yX4_clear cX4_clear 2 (some .int) : Cond) ∈ GG := List.mem_filter.mpr ⟨List.mem_of_getElem? (i := 207) (by decide +kernel), by decide +kernel⟩
theorem q208 : (.methodLink RX4 64 yX2_empty : Cond) ∈ GG := List.mem_filter.mpr ⟨List.mem_of_getElem? (i := 208) (by decide +kernel), by decide +kernel⟩
theorem q209 : (.instanceMethod yX2_empty : Cond) ∈ GG := List.mem_filter.mpr ⟨List.mem_of_getElem? (i := 209) (by decide +kernel), by decide +kernel⟩
theorem q210 : (.selects RX2 yX2_empty yX2_empty : Cond) ∈ GG := List.mem_filter.mpr ⟨List.mem_of_getElem? (i := 210) (by decide +kernel), by decide +kernel⟩
theorem q211 : (.code yX2_empty cX2_empty 1 none : Cond) ∈ GG := List.mem_filter.mpr ⟨List.mem_of_getElem? (i := 211) (by decide +kernel), by decide +kernel⟩
theorem q212 : (.methodLink RL 23 yX4_quarter : Cond) ∈ GG := List.mem_filter.mpr ⟨List.mem_of_getElem? (i := 212) (by decide +kernel), by decide +kernel⟩
theorem q213 : (.instanceMethod yX4_quarter : Cond) ∈ GG := List.mem_filter.mpr ⟨List.mem_of_getElem? (i := 213) (by decide +kernel), by decide +kernel⟩
theorem q214 : (.selects RX4 yX4_quarter yX4_quarter : Cond) ∈ GG := List.mem_filter.mpr ⟨List.mem_of_getElem? (i := 214) (by decide +kernel), by decide +kernel⟩
theorem q215 : (.code yX4_quarter cX4_quarter 3 (some .int) : Cond) ∈ GG := List.mem_filter.mpr ⟨List.mem_of_getElem? (i := 215) (by decide +kernel), by decide +kernel⟩
theorem q216 : (.methodLink RX4 67 yX2_read : Cond) ∈ GG := List.mem_filter.mpr ⟨List.mem_of_getElem? (i := 216) (by decide +kernel), by decide +kernel⟩
theorem q217 : (.instanceMethod yX2_read : Cond) ∈ GG := List.mem_filter.mpr ⟨List.mem_of_getElem? (i := 217) (by decide +kernel), by decide +kernel⟩
theorem q218 : (.selects RX2 yX2_read yX2_read : Cond) ∈ GG := List.mem_filter.mpr ⟨List.mem_of_getElem? (i := 218) (by decide +kernel), by decide +kernel⟩
theorem q219 : (.code yX2_read cX2_read 3 (some .int) : Cond) ∈ GG := List.mem_filter.mpr ⟨List.mem_of_getElem? (i := 219) (by decide +kernel), by decide +kernel⟩
theorem q220 : (.methodLink RX2 22 yX3_forgetAll : Cond) ∈ GG := List.mem_filter.mpr ⟨List.mem_of_getElem? (i := 220) (by decide +kernel), by decide +kernel⟩
theorem q221 : (.instanceMethod yX3_forgetAll : Cond) ∈ GG := List.mem_filter.mpr ⟨List.mem_of_getElem? (i := 221) (by decide +kernel), by decide +kernel⟩
theorem q222 : (.selects RX3 yX3_forgetAll yX3_forgetAll : Cond) ∈ GG := List.mem_filter.mpr ⟨List.mem_of_getElem? (i := 222) (by decide +kernel), by decide +kernel⟩
theorem q223 : (.code yX3_forgetAll cX3_forgetAll 1 none : Cond) ∈ GG := List.mem_filter.mpr ⟨List.mem_of_getElem? (i := 223) (by decide +kernel), by decide +kernel⟩
theorem q224 : (.methodLink RX2 27 yX2_nextToken : Cond) ∈ GG := List.mem_filter.mpr ⟨List.mem_of_getElem? (i := 224) (by decide +kernel), by decide +kernel⟩
theorem q226 : (.instanceMethod yX2_nextToken : Cond) ∈ GG := List.mem_filter.mpr ⟨List.mem_of_getElem? (i := 226) (by decide +kernel), by decide +kernel⟩
theorem q227 : (.code yX2_nextToken cX2_nextToken 1 none : Cond) ∈ GG := List.mem_filter.mpr ⟨List.mem_of_getElem? (i := 227) (by decide +kernel), by decide +kernel⟩
theorem q228 : (.methodLink RX2 84 yX2_isLetter : Cond) ∈ GG := List.mem_filter.mpr ⟨List.mem_of_getElem? (i := 228) (by decide +kernel), by decide +kernel⟩
theorem q229 : (.static yX2_isLetter : Cond) ∈ GG := List.mem_filter.mpr ⟨List.mem_of_getElem? (i := 229) (by decide +kernel), by decide +kernel⟩
theorem q230 : (.code yX2_isLetter cX2_isLetter 1 (some .boolean) : Cond) ∈ GG := List.mem_filter.mpr ⟨List.mem_of_getElem? (i := 230) (by decide +kernel), by decide +kernel⟩
theorem q231 : (.methodLink RX2 88 yX2_takeLetters : Cond) ∈ GG := List.mem_filter.mpr ⟨List.mem_of_getElem? (i := 231) (by decide +kernel), by decide +kernel⟩
theorem q233 : (.instanceMethod yX2_takeLetters : Cond) ∈ GG := List.mem_filter.mpr ⟨List.mem_of_getElem? (i := 233) (by decide +kernel), by decide +kernel⟩
theorem q234 : (.code yX2_takeLetters cX2_takeLetters 1 none : Cond) ∈ GG := List.mem_filter.mpr ⟨List.mem_of_getElem? (i := 234) (by decide +kernel), by decide +kernel⟩
theorem q235 : (.methodLink RX2 91 yX2_isDigit : Cond) ∈ GG := List.mem_filter.mpr ⟨List.mem_of_getElem? (i := 235) (by decide +kernel), by decide +kernel⟩
theorem q236 : (.static yX2_isDigit : Cond) ∈ GG := List.mem_filter.mpr ⟨List.mem_of_getElem? (i := 236) (by decide +kernel), by decide +kernel⟩
theorem q237 : (.code yX2_isDigit cX2_isDigit 1 (some .boolean) : Cond) ∈ GG := List.mem_filter.mpr ⟨List.mem_of_getElem? (i := 237) (by decide +kernel), by decide +kernel⟩
theorem q238 : (.methodLink RX2 94 yX2_takeNumber : Cond) ∈ GG := List.mem_filter.mpr ⟨List.mem_of_getElem? (i := 238) (by decide +kernel), by decide +kernel⟩
theorem q240 : (.instanceMethod yX2_takeNumber : Cond) ∈ GG := List.mem_filter.mpr ⟨List.mem_of_getElem? (i := 240) (by decide +kernel), by decide +kernel⟩
theorem q241 : (.code yX2_takeNumber cX2_takeNumber 2 none : Cond) ∈ GG := List.mem_filter.mpr ⟨List.mem_of_getElem? (i := 241) (by decide +kernel), by decide +kernel⟩
theorem q242 : (.methodLink RX2 97 yJ9_min_7cf53 : Cond) ∈ GG := List.mem_filter.mpr ⟨List.mem_of_getElem? (i := 242) (by decide +kernel), by decide +kernel⟩
theorem q243 : (.static yJ9_min_7cf53 : Cond) ∈ GG := List.mem_filter.mpr ⟨List.mem_of_getElem? (i := 243) (by decide +kernel), by decide +kernel⟩
theorem q244 : (.code yJ9_min_7cf53 cJ9_min_7cf53 2 (some .int) : Cond) ∈ GG := List.mem_filter.mpr ⟨List.mem_of_getElem? (i := 244) (by decide +kernel), by decide +kernel⟩
theorem q245 : (.methodLink RX2 33 yX2_readItem : Cond) ∈ GG := List.mem_filter.mpr ⟨List.mem_of_getElem? (i := 245) (by decide +kernel), by decide +kernel⟩
theorem q247 : (.instanceMethod yX2_readItem : Cond) ∈ GG := List.mem_filter.mpr ⟨List.mem_of_getElem? (i := 247) (by decide +kernel), by decide +kernel⟩
theorem q248 : (.code yX2_readItem cX2_readItem 3 (some .boolean) : Cond) ∈ GG := List.mem_filter.mpr ⟨List.mem_of_getElem? (i := 248) (by decide +kernel), by decide +kernel⟩
theorem q249 : (.methodLink RX2 43 yX3_addOven : Cond) ∈ GG := List.mem_filter.mpr ⟨List.mem_of_getElem? (i := 249) (by decide +kernel), by decide +kernel⟩
theorem q250 : (.instanceMethod yX3_addOven : Cond) ∈ GG := List.mem_filter.mpr ⟨List.mem_of_getElem? (i := 250) (by decide +kernel), by decide +kernel⟩
theorem q251 : (.selects RX3 yX3_addOven yX3_addOven : Cond) ∈ GG := List.mem_filter.mpr ⟨List.mem_of_getElem? (i := 251) (by decide +kernel), by decide +kernel⟩
theorem q252 : (.code yX3_addOven cX3_addOven 1 (some .boolean) : Cond) ∈ GG := List.mem_filter.mpr ⟨List.mem_of_getElem? (i := 252) (by decide +kernel), by decide +kernel⟩
theorem q253 : (.methodLink RX2 47 yX2_readOvenNumbers : Cond) ∈ GG := List.mem_filter.mpr ⟨List.mem_of_getElem? (i := 253) (by decide +kernel), by decide +kernel⟩
theorem q255 : (.instanceMethod yX2_readOvenNumbers : Cond) ∈ GG := List.mem_filter.mpr ⟨List.mem_of_getElem? (i := 255) (by decide +kernel), by decide +kernel⟩
theorem q256 : (.code yX2_readOvenNumbers cX2_readOvenNumbers 3 (some .boolean) : Cond) ∈ GG := List.mem_filter.mpr ⟨List.mem_of_getElem? (i := 256) (by decide +kernel), by decide +kernel⟩
theorem q257 : (.fieldLink RX2 56 RX2 "OVEN_MOSTS" "[I" : Cond) ∈ GG := List.mem_filter.mpr ⟨List.mem_of_getElem? (i := 257) (by decide +kernel), by decide +kernel⟩
theorem q259 : (.methodLink RX2 59 yX2_isNumberWithin : Cond) ∈ GG := List.mem_filter.mpr ⟨List.mem_of_getElem? (i := 259) (by decide +kernel), by decide +kernel⟩
theorem q261 : (.instanceMethod yX2_isNumberWithin : Cond) ∈ GG := List.mem_filter.mpr ⟨List.mem_of_getElem? (i := 261) (by decide +kernel), by decide +kernel⟩
theorem q262 : (.code yX2_isNumberWithin cX2_isNumberWithin 3 (some .boolean) : Cond) ∈ GG := List.mem_filter.mpr ⟨List.mem_of_getElem? (i := 262) (by decide +kernel), by decide +kernel⟩
theorem q263 : (.methodLink RX2 63 yX3_setOfLastOven : Cond) ∈ GG := List.mem_filter.mpr ⟨List.mem_of_getElem? (i := 263) (by decide +kernel), by decide +kernel⟩
theorem q264 : (.instanceMethod yX3_setOfLastOven : Cond) ∈ GG := List.mem_filter.mpr ⟨List.mem_of_getElem? (i := 264) (by decide +kernel), by decide +kernel⟩
theorem q265 : (.selects RX3 yX3_setOfLastOven yX3_setOfLastOven : Cond) ∈ GG := List.mem_filter.mpr ⟨List.mem_of_getElem? (i := 265) (by decide +kernel), by decide +kernel⟩
theorem q266 : (.code yX3_setOfLastOven cX3_setOfLastOven 4 none : Cond) ∈ GG := List.mem_filter.mpr ⟨List.mem_of_getElem? (i := 266) (by decide +kernel), by decide +kernel⟩
theorem q267 : (.methodLink RX2 50 yX3_addDough : Cond) ∈ GG := List.mem_filter.mpr ⟨List.mem_of_getElem? (i := 267) (by decide +kernel), by decide +kernel⟩
theorem q268 : (.instanceMethod yX3_addDough : Cond) ∈ GG := List.mem_filter.mpr ⟨List.mem_of_getElem? (i := 268) (by decide +kernel), by decide +kernel⟩
theorem q269 : (.selects RX3 yX3_addDough yX3_addDough : Cond) ∈ GG := List.mem_filter.mpr ⟨List.mem_of_getElem? (i := 269) (by decide +kernel), by decide +kernel⟩
theorem q270 : (.code yX3_addDough cX3_addDough 1 (some .boolean) : Cond) ∈ GG := List.mem_filter.mpr ⟨List.mem_of_getElem? (i := 270) (by decide +kernel), by decide +kernel⟩
theorem q271 : (.methodLink RX2 53 yX2_readDoughNumbers : Cond) ∈ GG := List.mem_filter.mpr ⟨List.mem_of_getElem? (i := 271) (by decide +kernel), by decide +kernel⟩
theorem q273 : (.instanceMethod yX2_readDoughNumbers : Cond) ∈ GG := List.mem_filter.mpr ⟨List.mem_of_getElem? (i := 273) (by decide +kernel), by decide +kernel⟩
theorem q274 : (.code yX2_readDoughNumbers cX2_readDoughNumbers 4 (some .boolean) : Cond) ∈ GG := List.mem_filter.mpr ⟨List.mem_of_getElem? (i := 274) (by decide +kernel), by decide +kernel⟩
theorem q275 : (.methodLink RX2 67 yX3_doughs : Cond) ∈ GG := List.mem_filter.mpr ⟨List.mem_of_getElem? (i := 275) (by decide +kernel), by decide +kernel⟩
theorem q276 : (.instanceMethod yX3_doughs : Cond) ∈ GG := List.mem_filter.mpr ⟨List.mem_of_getElem? (i := 276) (by decide +kernel), by decide +kernel⟩
theorem q277 : (.selects RX3 yX3_doughs yX3_doughs : Cond) ∈ GG := List.mem_filter.mpr ⟨List.mem_of_getElem? (i := 277) (by decide +kernel), by decide +kernel⟩
theorem q278 : (.code yX3_doughs cX3_doughs 1 (some .int) : Cond) ∈ GG := List.mem_filter.mpr ⟨List.mem_of_getElem? (i := 278) (by decide +kernel), by decide +kernel⟩
theorem q279 : (.methodLink RX2 71 yX3_ofDough : Cond) ∈ GG := List.mem_filter.mpr ⟨List.mem_of_getElem? (i := 279) (by decide +kernel), by decide +kernel⟩
theorem q280 : (.instanceMethod yX3_ofDough : Cond) ∈ GG := List.mem_filter.mpr ⟨List.mem_of_getElem? (i := 280) (by decide +kernel), by decide +kernel⟩
theorem q281 : (.selects RX3 yX3_ofDough yX3_ofDough : Cond) ∈ GG := List.mem_filter.mpr ⟨List.mem_of_getElem? (i := 281) (by decide +kernel), by decide +kernel⟩
theorem q282 : (.code yX3_ofDough cX3_ofDough 4 (some .int) : Cond) ∈ GG := List.mem_filter.mpr ⟨List.mem_of_getElem? (i := 282) (by decide +kernel), by decide +kernel⟩
theorem q283 : (.methodLink RX3 29 yX3_hasDough : Cond) ∈ GG := List.mem_filter.mpr ⟨List.mem_of_getElem? (i := 283) (by decide +kernel), by decide +kernel⟩
theorem q284 : (.instanceMethod yX3_hasDough : Cond) ∈ GG := List.mem_filter.mpr ⟨List.mem_of_getElem? (i := 284) (by decide +kernel), by decide +kernel⟩
theorem q285 : (.selects RX3 yX3_hasDough yX3_hasDough : Cond) ∈ GG := List.mem_filter.mpr ⟨List.mem_of_getElem? (i := 285) (by decide +kernel), by decide +kernel⟩
theorem q286 : (.code yX3_hasDough cX3_hasDough 2 (some .boolean) : Cond) ∈ GG := List.mem_filter.mpr ⟨List.mem_of_getElem? (i := 286) (by decide +kernel), by decide +kernel⟩
theorem q287 : (.fieldLink RX2 75 RX2 "DOUGH_LEASTS" "[I" : Cond) ∈ GG := List.mem_filter.mpr ⟨List.mem_of_getElem? (i := 287) (by decide +kernel), by decide +kernel⟩
theorem q289 : (.fieldLink RX2 78 RX2 "DOUGH_MOSTS" "[I" : Cond) ∈ GG := List.mem_filter.mpr ⟨List.mem_of_getElem? (i := 289) (by decide +kernel), by decide +kernel⟩
theorem q291 : (.methodLink RX2 81 yX3_setOfLastDough : Cond) ∈ GG := List.mem_filter.mpr ⟨List.mem_of_getElem? (i := 291) (by decide +kernel), by decide +kernel⟩
theorem q292 : (.instanceMethod yX3_setOfLastDough : Cond) ∈ GG := List.mem_filter.mpr ⟨List.mem_of_getElem? (i := 292) (by decide +kernel), by decide +kernel⟩
theorem q293 : (.selects RX3 yX3_setOfLastDough yX3_setOfLastDough : Cond) ∈ GG := List.mem_filter.mpr ⟨List.mem_of_getElem? (i := 293) (by decide +kernel), by decide +kernel⟩
theorem q294 : (.code yX3_setOfLastDough cX3_setOfLastDough 4 none : Cond) ∈ GG := List.mem_filter.mpr ⟨List.mem_of_getElem? (i := 294) (by decide +kernel), by decide +kernel⟩
theorem q295 : (.methodLink RX4 71 yX0_begin : Cond) ∈ GG := List.mem_filter.mpr ⟨List.mem_of_getElem? (i := 295) (by decide +kernel), by decide +kernel⟩
theorem q296 : (.methodLink RL 27 yX4_oven : Cond) ∈ GG := List.mem_filter.mpr ⟨List.mem_of_getElem? (i := 296) (by decide +kernel), by decide +kernel⟩
theorem q297 : (.instanceMethod yX4_oven : Cond) ∈ GG := List.mem_filter.mpr ⟨List.mem_of_getElem? (i := 297) (by decide +kernel), by decide +kernel⟩
theorem q298 : (.selects RX4 yX4_oven yX4_oven : Cond) ∈ GG := List.mem_filter.mpr ⟨List.mem_of_getElem? (i := 298) (by decide +kernel), by decide +kernel⟩
theorem q299 : (.code yX4_oven cX4_oven 3 (some .int) : Cond) ∈ GG := List.mem_filter.mpr ⟨List.mem_of_getElem? (i := 299) (by decide +kernel), by decide +kernel⟩
theorem q300 : (.methodLink RX4 81 yX3_hasOven : Cond) ∈ GG := List.mem_filter.mpr ⟨List.mem_of_getElem? (i := 300) (by decide +kernel), by decide +kernel⟩
theorem q301 : (.instanceMethod yX3_hasOven : Cond) ∈ GG := List.mem_filter.mpr ⟨List.mem_of_getElem? (i := 301) (by decide +kernel), by decide +kernel⟩
theorem q302 : (.selects RX3 yX3_hasOven yX3_hasOven : Cond) ∈ GG := List.mem_filter.mpr ⟨List.mem_of_getElem? (i := 302) (by decide +kernel), by decide +kernel⟩
theorem q303 : (.code yX3_hasOven cX3_hasOven 2 (some .boolean) : Cond) ∈ GG := List.mem_filter.mpr ⟨List.mem_of_getElem? (i := 303) (by decide +kernel), by decide +kernel⟩
theorem q304 : (.constant RX4 84 (-1000000) : Cond) ∈ GG := List.mem_filter.mpr ⟨List.mem_of_getElem? (i := 304) (by decide +kernel), by decide +kernel⟩
theorem q305 : (.methodLink RX4 85 yX3_ofOven : Cond) ∈ GG := List.mem_filter.mpr ⟨List.mem_of_getElem? (i := 305) (by decide +kernel), by decide +kernel⟩
theorem q306 : (.instanceMethod yX3_ofOven : Cond) ∈ GG := List.mem_filter.mpr ⟨List.mem_of_getElem? (i := 306) (by decide +kernel), by decide +kernel⟩
theorem q307 : (.selects RX3 yX3_ofOven yX3_ofOven : Cond) ∈ GG := List.mem_filter.mpr ⟨List.mem_of_getElem? (i := 307) (by decide +kernel), by decide +kernel⟩
theorem q308 : (.code yX3_ofOven cX3_ofOven 4 (some .int) : Cond) ∈ GG := List.mem_filter.mpr ⟨List.mem_of_getElem? (i := 308) (by decide +kernel), by decide +kernel⟩
theorem q309 : (.methodLink RX3 25 yX3_hasOven : Cond) ∈ GG := List.mem_filter.mpr ⟨List.mem_of_getElem? (i := 309) (by decide +kernel), by decide +kernel⟩
theorem q310 : (.methodLink RX4 89 yX0_placedAt : Cond) ∈ GG := List.mem_filter.mpr ⟨List.mem_of_getElem? (i := 310) (by decide +kernel), by decide +kernel⟩
theorem q311 : (.instanceMethod yX0_placedAt : Cond) ∈ GG := List.mem_filter.mpr ⟨List.mem_of_getElem? (i := 311) (by decide +kernel), by decide +kernel⟩
theorem q312 : (.selects RX0 yX0_placedAt yX0_placedAt : Cond) ∈ GG := List.mem_filter.mpr ⟨List.mem_of_getElem? (i := 312) (by decide +kernel), by decide +kernel⟩
theorem q313 : (.code yX0_placedAt cX0_placedAt 5 (some .int) : Cond) ∈ GG := List.mem_filter.mpr ⟨List.mem_of_getElem? (i := 313) (by decide +kernel), by decide +kernel⟩
theorem q314 : (.methodLink RX0 39 yX3_doughs : Cond) ∈ GG := List.mem_filter.mpr ⟨List.mem_of_getElem? (i := 314) (by decide +kernel), by decide +kernel⟩
theorem q315 : (.methodLink RX0 44 yX0_place : Cond) ∈ GG := List.mem_filter.mpr ⟨List.mem_of_getElem? (i := 315) (by decide +kernel), by decide +kernel⟩
theorem q316 : (.instanceMethod yX0_place : Cond) ∈ GG := List.mem_filter.mpr ⟨List.mem_of_getElem? (i := 316) (by decide +kernel), by decide +kernel⟩
theorem q317 : (.selects RX0 yX0_place yX0_place : Cond) ∈ GG := List.mem_filter.mpr ⟨List.mem_of_getElem? (i := 317) (by decide +kernel), by decide +kernel⟩
theorem q318 : (.code yX0_place cX0_place 2 (some .int) : Cond) ∈ GG := List.mem_filter.mpr ⟨List.mem_of_getElem? (i := 318) (by decide +kernel), by decide +kernel⟩
theorem q319 : (.methodLink RX0 35 yX0_isPlace : Cond) ∈ GG := List.mem_filter.mpr ⟨List.mem_of_getElem? (i := 319) (by decide +kernel), by decide +kernel⟩
theorem q320 : (.static yX0_isPlace : Cond) ∈ GG := List.mem_filter.mpr ⟨List.mem_of_getElem? (i := 320) (by decide +kernel), by decide +kernel⟩
theorem q321 : (.code yX0_isPlace cX0_isPlace 1 (some .boolean) : Cond) ∈ GG := List.mem_filter.mpr ⟨List.mem_of_getElem? (i := 321) (by decide +kernel), by decide +kernel⟩
theorem q322 : (.methodLink RX0 28 yX0_base : Cond) ∈ GG := List.mem_filter.mpr ⟨List.mem_of_getElem? (i := 322) (by decide +kernel), by decide +kernel⟩
theorem q324 : (.instanceMethod yX0_base : Cond) ∈ GG := List.mem_filter.mpr ⟨List.mem_of_getElem? (i := 324) (by decide +kernel), by decide +kernel⟩
theorem q325 : (.code yX0_base cX0_base 1 (some .int) : Cond) ∈ GG := List.mem_filter.mpr ⟨List.mem_of_getElem? (i := 325) (by decide +kernel), by decide +kernel⟩
theorem q326 : (.methodLink RX4 93 yX0_hot : Cond) ∈ GG := List.mem_filter.mpr ⟨List.mem_of_getElem? (i := 326) (by decide +kernel), by decide +kernel⟩
theorem q327 : (.instanceMethod yX0_hot : Cond) ∈ GG := List.mem_filter.mpr ⟨List.mem_of_getElem? (i := 327) (by decide +kernel), by decide +kernel⟩
theorem q328 : (.selects RX0 yX0_hot yX0_hot : Cond) ∈ GG := List.mem_filter.mpr ⟨List.mem_of_getElem? (i := 328) (by decide +kernel), by decide +kernel⟩
theorem q329 : (.code yX0_hot cX0_hot 4 (some .int) : Cond) ∈ GG := List.mem_filter.mpr ⟨List.mem_of_getElem? (i := 329) (by decide +kernel), by decide +kernel⟩
theorem q330 : (.methodLink RX0 48 yX0_placedAt : Cond) ∈ GG := List.mem_filter.mpr ⟨List.mem_of_getElem? (i := 330) (by decide +kernel), by decide +kernel⟩
theorem q331 : (.methodLink RX0 52 yJ6_bitCount_0f7a4 : Cond) ∈ GG := List.mem_filter.mpr ⟨List.mem_of_getElem? (i := 331) (by decide +kernel), by decide +kernel⟩
theorem q332 : (.static yJ6_bitCount_0f7a4 : Cond) ∈ GG := List.mem_filter.mpr ⟨List.mem_of_getElem? (i := 332) (by decide +kernel), by decide +kernel⟩
theorem q333 : (.code yJ6_bitCount_0f7a4 cJ6_bitCount_0f7a4 1 (some .int) : Cond) ∈ GG := List.mem_filter.mpr ⟨List.mem_of_getElem? (i := 333) (by decide +kernel), by decide +kernel⟩
theorem q334 : (.constant RJ6 265 (1431655765) : Cond) ∈ GG := List.mem_filter.mpr ⟨List.mem_of_getElem? (i := 334) (by decide +kernel), by decide +kernel⟩
theorem q335 : (.constant RJ6 266 (858993459) : Cond) ∈ GG := List.mem_filter.mpr ⟨List.mem_of_getElem? (i := 335) (by decide +kernel), by decide +kernel⟩
theorem q336 : (.constant RJ6 267 (252645135) : Cond) ∈ GG := List.mem_filter.mpr ⟨List.mem_of_getElem? (i := 336) (by decide +kernel), by decide +kernel⟩
theorem q337 : (.methodLink RX0 57 yX3_ofOven : Cond) ∈ GG := List.mem_filter.mpr ⟨List.mem_of_getElem? (i := 337) (by decide +kernel), by decide +kernel⟩
theorem q338 : (.methodLink RX4 96 yX0_isShut : Cond) ∈ GG := List.mem_filter.mpr ⟨List.mem_of_getElem? (i := 338) (by decide +kernel), by decide +kernel⟩
theorem q339 : (.instanceMethod yX0_isShut : Cond) ∈ GG := List.mem_filter.mpr ⟨List.mem_of_getElem? (i := 339) (by decide +kernel), by decide +kernel⟩
theorem q340 : (.selects RX0 yX0_isShut yX0_isShut : Cond) ∈ GG := List.mem_filter.mpr ⟨List.mem_of_getElem? (i := 340) (by decide +kernel), by decide +kernel⟩
theorem q341 : (.code yX0_isShut cX0_isShut 2 (some .boolean) : Cond) ∈ GG := List.mem_filter.mpr ⟨List.mem_of_getElem? (i := 341) (by decide +kernel), by decide +kernel⟩
theorem q342 : (.methodLink RX0 32 yX0_shutBits : Cond) ∈ GG := List.mem_filter.mpr ⟨List.mem_of_getElem? (i := 342) (by decide +kernel), by decide +kernel⟩
theorem q343 : (.instanceMethod yX0_shutBits : Cond) ∈ GG := List.mem_filter.mpr ⟨List.mem_of_getElem? (i := 343) (by decide +kernel), by decide +kernel⟩
theorem q344 : (.selects RX0 yX0_shutBits yX0_shutBits : Cond) ∈ GG := List.mem_filter.mpr ⟨List.mem_of_getElem? (i := 344) (by decide +kernel), by decide +kernel⟩
theorem q345 : (.code yX0_shutBits cX0_shutBits 1 (some .int) : Cond) ∈ GG := List.mem_filter.mpr ⟨List.mem_of_getElem? (i := 345) (by decide +kernel), by decide +kernel⟩
theorem q346 : (.methodLink RL 32 yX4_dough : Cond) ∈ GG := List.mem_filter.mpr ⟨List.mem_of_getElem? (i := 346) (by decide +kernel), by decide +kernel⟩
theorem q347 : (.instanceMethod yX4_dough : Cond) ∈ GG := List.mem_filter.mpr ⟨List.mem_of_getElem? (i := 347) (by decide +kernel), by decide +kernel⟩
theorem q348 : (.selects RX4 yX4_dough yX4_dough : Cond) ∈ GG := List.mem_filter.mpr ⟨List.mem_of_getElem? (i := 348) (by decide +kernel), by decide +kernel⟩
theorem q349 : (.code yX4_dough cX4_dough 3 (some .int) : Cond) ∈ GG := List.mem_filter.mpr ⟨List.mem_of_getElem? (i := 349) (by decide +kernel), by decide +kernel⟩
theorem q350 : (.methodLink RX4 99 yX3_hasDough : Cond) ∈ GG := List.mem_filter.mpr ⟨List.mem_of_getElem? (i := 350) (by decide +kernel), by decide +kernel⟩
theorem q351 : (.methodLink RX4 102 yX3_ofDough : Cond) ∈ GG := List.mem_filter.mpr ⟨List.mem_of_getElem? (i := 351) (by decide +kernel), by decide +kernel⟩
theorem q352 : (.methodLink RX4 105 yX0_place : Cond) ∈ GG := List.mem_filter.mpr ⟨List.mem_of_getElem? (i := 352) (by decide +kernel), by decide +kernel⟩
theorem q353 : (.methodLink RX4 109 yX0_baked : Cond) ∈ GG := List.mem_filter.mpr ⟨List.mem_of_getElem? (i := 353) (by decide +kernel), by decide +kernel⟩
theorem q354 : (.instanceMethod yX0_baked : Cond) ∈ GG := List.mem_filter.mpr ⟨List.mem_of_getElem? (i := 354) (by decide +kernel), by decide +kernel⟩
theorem q355 : (.selects RX0 yX0_baked yX0_baked : Cond) ∈ GG := List.mem_filter.mpr ⟨List.mem_of_getElem? (i := 355) (by decide +kernel), by decide +kernel⟩
theorem q356 : (.code yX0_baked cX0_baked 2 (some .int) : Cond) ∈ GG := List.mem_filter.mpr ⟨List.mem_of_getElem? (i := 356) (by decide +kernel), by decide +kernel⟩
theorem q357 : (.methodLink RX4 112 yX4_isOut : Cond) ∈ GG := List.mem_filter.mpr ⟨List.mem_of_getElem? (i := 357) (by decide +kernel), by decide +kernel⟩
theorem q359 : (.instanceMethod yX4_isOut : Cond) ∈ GG := List.mem_filter.mpr ⟨List.mem_of_getElem? (i := 359) (by decide +kernel), by decide +kernel⟩
theorem q360 : (.code yX4_isOut cX4_isOut 2 (some .boolean) : Cond) ∈ GG := List.mem_filter.mpr ⟨List.mem_of_getElem? (i := 360) (by decide +kernel), by decide +kernel⟩
theorem q361 : (.methodLink RX4 115 yX4_noseOf : Cond) ∈ GG := List.mem_filter.mpr ⟨List.mem_of_getElem? (i := 361) (by decide +kernel), by decide +kernel⟩
theorem q363 : (.instanceMethod yX4_noseOf : Cond) ∈ GG := List.mem_filter.mpr ⟨List.mem_of_getElem? (i := 363) (by decide +kernel), by decide +kernel⟩
theorem q364 : (.code yX4_noseOf cX4_noseOf 7 (some .int) : Cond) ∈ GG := List.mem_filter.mpr ⟨List.mem_of_getElem? (i := 364) (by decide +kernel), by decide +kernel⟩
theorem q365 : (.methodLink RX4 193 yX3_ovens : Cond) ∈ GG := List.mem_filter.mpr ⟨List.mem_of_getElem? (i := 365) (by decide +kernel), by decide +kernel⟩
theorem q366 : (.instanceMethod yX3_ovens : Cond) ∈ GG := List.mem_filter.mpr ⟨List.mem_of_getElem? (i := 366) (by decide +kernel), by decide +kernel⟩
theorem q367 : (.selects RX3 yX3_ovens yX3_ovens : Cond) ∈ GG := List.mem_filter.mpr ⟨List.mem_of_getElem? (i := 367) (by decide +kernel), by decide +kernel⟩
theorem q368 : (.code yX3_ovens cX3_ovens 1 (some .int) : Cond) ∈ GG := List.mem_filter.mpr ⟨List.mem_of_getElem? (i := 368) (by decide +kernel), by decide +kernel⟩
theorem q369 : (.methodLink RX4 118 yX4_smellOf : Cond) ∈ GG := List.mem_filter.mpr ⟨List.mem_of_getElem? (i := 369) (by decide +kernel), by decide +kernel⟩
theorem q371 : (.instanceMethod yX4_smellOf : Cond) ∈ GG := List.mem_filter.mpr ⟨List.mem_of_getElem? (i := 371) (by decide +kernel), by decide +kernel⟩
theorem q372 : (.code yX4_smellOf cX4_smellOf 6 (some .int) : Cond) ∈ GG := List.mem_filter.mpr ⟨List.mem_of_getElem? (i := 372) (by decide +kernel), by decide +kernel⟩
theorem q373 : (.methodLink RX4 165 yX3_doughs : Cond) ∈ GG := List.mem_filter.mpr ⟨List.mem_of_getElem? (i := 373) (by decide +kernel), by decide +kernel⟩
theorem q374 : (.methodLink RX4 225 yX4_liking : Cond) ∈ GG := List.mem_filter.mpr ⟨List.mem_of_getElem? (i := 374) (by decide +kernel), by decide +kernel⟩
theorem q376 : (.instanceMethod yX4_liking : Cond) ∈ GG := List.mem_filter.mpr ⟨List.mem_of_getElem? (i := 376) (by decide +kernel), by decide +kernel⟩
theorem q377 : (.code yX4_liking cX4_liking 6 (some .int) : Cond) ∈ GG := List.mem_filter.mpr ⟨List.mem_of_getElem? (i := 377) (by decide +kernel), by decide +kernel⟩
theorem q378 : (.methodLink RL 36 yX4_smell : Cond) ∈ GG := List.mem_filter.mpr ⟨List.mem_of_getElem? (i := 378) (by decide +kernel), by decide +kernel⟩
theorem q379 : (.instanceMethod yX4_smell : Cond) ∈ GG := List.mem_filter.mpr ⟨List.mem_of_getElem? (i := 379) (by decide +kernel), by decide +kernel⟩
theorem q380 : (.selects RX4 yX4_smell yX4_smell : Cond) ∈ GG := List.mem_filter.mpr ⟨List.mem_of_getElem? (i := 380) (by decide +kernel), by decide +kernel⟩
theorem q381 : (.code yX4_smell cX4_smell 3 (some .int) : Cond) ∈ GG := List.mem_filter.mpr ⟨List.mem_of_getElem? (i := 381) (by decide +kernel), by decide +kernel⟩
theorem q382 : (.methodLink RL 40 yX4_follows : Cond) ∈ GG := List.mem_filter.mpr ⟨List.mem_of_getElem? (i := 382) (by decide +kernel), by decide +kernel⟩
theorem q383 : (.instanceMethod yX4_follows : Cond) ∈ GG := List.mem_filter.mpr ⟨List.mem_of_getElem? (i := 383) (by decide +kernel), by decide +kernel⟩
theorem q384 : (.selects RX4 yX4_follows yX4_follows : Cond) ∈ GG := List.mem_filter.mpr ⟨List.mem_of_getElem? (i := 384) (by decide +kernel), by decide +kernel⟩
theorem q385 : (.code yX4_follows cX4_follows 3 (some .int) : Cond) ∈ GG := List.mem_filter.mpr ⟨List.mem_of_getElem? (i := 385) (by decide +kernel), by decide +kernel⟩
theorem q386 : (.methodLink RX4 122 yX4_mayGoIn : Cond) ∈ GG := List.mem_filter.mpr ⟨List.mem_of_getElem? (i := 386) (by decide +kernel), by decide +kernel⟩
theorem q388 : (.instanceMethod yX4_mayGoIn : Cond) ∈ GG := List.mem_filter.mpr ⟨List.mem_of_getElem? (i := 388) (by decide +kernel), by decide +kernel⟩
theorem q389 : (.code yX4_mayGoIn cX4_mayGoIn 3 (some .boolean) : Cond) ∈ GG := List.mem_filter.mpr ⟨List.mem_of_getElem? (i := 389) (by decide +kernel), by decide +kernel⟩
theorem q390 : (.methodLink RX4 137 yX0_minute : Cond) ∈ GG := List.mem_filter.mpr ⟨List.mem_of_getElem? (i := 390) (by decide +kernel), by decide +kernel⟩
theorem q391 : (.instanceMethod yX0_minute : Cond) ∈ GG := List.mem_filter.mpr ⟨List.mem_of_getElem? (i := 391) (by decide +kernel), by decide +kernel⟩
theorem q392 : (.selects RX0 yX0_minute yX0_minute : Cond) ∈ GG := List.mem_filter.mpr ⟨List.mem_of_getElem? (i := 392) (by decide +kernel), by decide +kernel⟩
theorem q393 : (.code yX0_minute cX0_minute 1 (some .int) : Cond) ∈ GG := List.mem_filter.mpr ⟨List.mem_of_getElem? (i := 393) (by decide +kernel), by decide +kernel⟩
theorem q394 : (.methodLink RX4 125 yX0_remember : Cond) ∈ GG := List.mem_filter.mpr ⟨List.mem_of_getElem? (i := 394) (by decide +kernel), by decide +kernel⟩
theorem q395 : (.instanceMethod yX0_remember : Cond) ∈ GG := List.mem_filter.mpr ⟨List.mem_of_getElem? (i := 395) (by decide +kernel), by decide +kernel⟩
theorem q396 : (.selects RX0 yX0_remember yX0_remember : Cond) ∈ GG := List.mem_filter.mpr ⟨List.mem_of_getElem? (i := 396) (by decide +kernel), by decide +kernel⟩
theorem q397 : (.code yX0_remember cX0_remember 1 none : Cond) ∈ GG := List.mem_filter.mpr ⟨List.mem_of_getElem? (i := 397) (by decide +kernel), by decide +kernel⟩
theorem q398 : (.methodLink RX0 22 arraycopyName : Cond) ∈ GG := List.mem_filter.mpr ⟨List.mem_of_getElem? (i := 398) (by decide +kernel), by decide +kernel⟩
theorem q399 : (.static arraycopyName : Cond) ∈ GG := List.mem_filter.mpr ⟨List.mem_of_getElem? (i := 399) (by decide +kernel), by decide +kernel⟩
theorem q400 : (.native arraycopyName : Cond) ∈ GG := List.mem_filter.mpr ⟨List.mem_of_getElem? (i := 400) (by decide +kernel), by decide +kernel⟩
theorem q401 : (.methodLink RX4 128 yX0_putIn : Cond) ∈ GG := List.mem_filter.mpr ⟨List.mem_of_getElem? (i := 401) (by decide +kernel), by decide +kernel⟩
theorem q402 : (.instanceMethod yX0_putIn : Cond) ∈ GG := List.mem_filter.mpr ⟨List.mem_of_getElem? (i := 402) (by decide +kernel), by decide +kernel⟩
theorem q403 : (.selects RX0 yX0_putIn yX0_putIn : Cond) ∈ GG := List.mem_filter.mpr ⟨List.mem_of_getElem? (i := 403) (by decide +kernel), by decide +kernel⟩
theorem q404 : (.code yX0_putIn cX0_putIn 3 none : Cond) ∈ GG := List.mem_filter.mpr ⟨List.mem_of_getElem? (i := 404) (by decide +kernel), by decide +kernel⟩
theorem q405 : (.methodLink RL 44 yX4_puts : Cond) ∈ GG := List.mem_filter.mpr ⟨List.mem_of_getElem? (i := 405) (by decide +kernel), by decide +kernel⟩
theorem q406 : (.instanceMethod yX4_puts : Cond) ∈ GG := List.mem_filter.mpr ⟨List.mem_of_getElem? (i := 406) (by decide +kernel), by decide +kernel⟩
theorem q407 : (.selects RX4 yX4_puts yX4_puts : Cond) ∈ GG := List.mem_filter.mpr ⟨List.mem_of_getElem? (i := 407) (by decide +kernel), by decide +kernel⟩
theorem q408 : (.code yX4_puts cX4_puts 3 (some .int) : Cond) ∈ GG := List.mem_filter.mpr ⟨List.mem_of_getElem? (i := 408) (by decide +kernel), by decide +kernel⟩
theorem q409 : (.methodLink RX4 132 yJ6_bitCount_0f7a4 : Cond) ∈ GG := List.mem_filter.mpr ⟨List.mem_of_getElem? (i := 409) (by decide +kernel), by decide +kernel⟩
theorem q410 : (.methodLink RL 48 yX4_minutes : Cond) ∈ GG := List.mem_filter.mpr ⟨List.mem_of_getElem? (i := 410) (by decide +kernel), by decide +kernel⟩
theorem q411 : (.instanceMethod yX4_minutes : Cond) ∈ GG := List.mem_filter.mpr ⟨List.mem_of_getElem? (i := 411) (by decide +kernel), by decide +kernel⟩
theorem q412 : (.selects RX4 yX4_minutes yX4_minutes : Cond) ∈ GG := List.mem_filter.mpr ⟨List.mem_of_getElem? (i := 412) (by decide +kernel), by decide +kernel⟩
theorem q413 : (.code yX4_minutes cX4_minutes 4 (some .int) : Cond) ∈ GG := List.mem_filter.mpr ⟨List.mem_of_getElem? (i := 413) (by decide +kernel), by decide +kernel⟩
theorem q414 : (.methodLink RX4 140 yX0_passMinute : Cond) ∈ GG := List.mem_filter.mpr ⟨List.mem_of_getElem? (i := 414) (by decide +kernel), by decide +kernel⟩
theorem q415 : (.instanceMethod yX0_passMinute : Cond) ∈ GG := List.mem_filter.mpr ⟨List.mem_of_getElem? (i := 415) (by decide +kernel), by decide +kernel⟩
theorem q416 : (.selects RX0 yX0_passMinute yX0_passMinute : Cond) ∈ GG := List.mem_filter.mpr ⟨List.mem_of_getElem? (i := 416) (by decide +kernel), by decide +kernel⟩
theorem q417 : (.code yX0_passMinute cX0_passMinute 3 none : Cond) ∈ GG := List.mem_filter.mpr ⟨List.mem_of_getElem? (i := 417) (by decide +kernel), by decide +kernel⟩
theorem q418 : (.methodLink RX0 61 yX3_hasOven : Cond) ∈ GG := List.mem_filter.mpr ⟨List.mem_of_getElem? (i := 418) (by decide +kernel), by decide +kernel⟩
theorem q419 : (.methodLink RX0 64 yX0_hot : Cond) ∈ GG := List.mem_filter.mpr ⟨List.mem_of_getElem? (i := 419) (by decide +kernel), by decide +kernel⟩
theorem q420 : (.methodLink RX0 67 yX0_baked : Cond) ∈ GG := List.mem_filter.mpr ⟨List.mem_of_getElem? (i := 420) (by decide +kernel), by decide +kernel⟩
theorem q421 : (.methodLink RX0 70 yX3_ofDough : Cond) ∈ GG := List.mem_filter.mpr ⟨List.mem_of_getElem? (i := 421) (by decide +kernel), by decide +kernel⟩
theorem q422 : (.methodLink RL 52 yX4_shuts : Cond) ∈ GG := List.mem_filter.mpr ⟨List.mem_of_getElem? (i := 422) (by decide +kernel), by decide +kernel⟩
theorem q423 : (.instanceMethod yX4_shuts : Cond) ∈ GG := List.mem_filter.mpr ⟨List.mem_of_getElem? (i := 423) (by decide +kernel), by decide +kernel⟩
theorem q424 : (.selects RX4 yX4_shuts yX4_shuts : Cond) ∈ GG := List.mem_filter.mpr ⟨List.mem_of_getElem? (i := 424) (by decide +kernel), by decide +kernel⟩
theorem q425 : (.code yX4_shuts cX4_shuts 3 (some .int) : Cond) ∈ GG := List.mem_filter.mpr ⟨List.mem_of_getElem? (i := 425) (by decide +kernel), by decide +kernel⟩
theorem q426 : (.methodLink RX4 144 yX0_turnDoor : Cond) ∈ GG := List.mem_filter.mpr ⟨List.mem_of_getElem? (i := 426) (by decide +kernel), by decide +kernel⟩
theorem q427 : (.instanceMethod yX0_turnDoor : Cond) ∈ GG := List.mem_filter.mpr ⟨List.mem_of_getElem? (i := 427) (by decide +kernel), by decide +kernel⟩
theorem q428 : (.selects RX0 yX0_turnDoor yX0_turnDoor : Cond) ∈ GG := List.mem_filter.mpr ⟨List.mem_of_getElem? (i := 428) (by decide +kernel), by decide +kernel⟩
theorem q429 : (.code yX0_turnDoor cX0_turnDoor 2 none : Cond) ∈ GG := List.mem_filter.mpr ⟨List.mem_of_getElem? (i := 429) (by decide +kernel), by decide +kernel⟩
theorem q430 : (.methodLink RX4 148 yX0_shutBits : Cond) ∈ GG := List.mem_filter.mpr ⟨List.mem_of_getElem? (i := 430) (by decide +kernel), by decide +kernel⟩
theorem q431 : (.methodLink RL 56 yX4_undo : Cond) ∈ GG := List.mem_filter.mpr ⟨List.mem_of_getElem? (i := 431) (by decide +kernel), by decide +kernel⟩
theorem q432 : (.instanceMethod yX4_undo : Cond) ∈ GG := List.mem_filter.mpr ⟨List.mem_of_getElem? (i := 432) (by decide +kernel), by decide +kernel⟩
theorem q433 : (.selects RX4 yX4_undo yX4_undo : Cond) ∈ GG := List.mem_filter.mpr ⟨List.mem_of_getElem? (i := 433) (by decide +kernel), by decide +kernel⟩
theorem q434 : (.code yX4_undo cX4_undo 1 (some .int) : Cond) ∈ GG := List.mem_filter.mpr ⟨List.mem_of_getElem? (i := 434) (by decide +kernel), by decide +kernel⟩
theorem q435 : (.methodLink RX4 151 yX0_takeBack : Cond) ∈ GG := List.mem_filter.mpr ⟨List.mem_of_getElem? (i := 435) (by decide +kernel), by decide +kernel⟩
theorem q436 : (.instanceMethod yX0_takeBack : Cond) ∈ GG := List.mem_filter.mpr ⟨List.mem_of_getElem? (i := 436) (by decide +kernel), by decide +kernel⟩
theorem q437 : (.selects RX0 yX0_takeBack yX0_takeBack : Cond) ∈ GG := List.mem_filter.mpr ⟨List.mem_of_getElem? (i := 437) (by decide +kernel), by decide +kernel⟩
theorem q438 : (.code yX0_takeBack cX0_takeBack 1 (some .boolean) : Cond) ∈ GG := List.mem_filter.mpr ⟨List.mem_of_getElem? (i := 438) (by decide +kernel), by decide +kernel⟩
theorem q439 : (.methodLink RX4 155 yX0_known : Cond) ∈ GG := List.mem_filter.mpr ⟨List.mem_of_getElem? (i := 439) (by decide +kernel), by decide +kernel⟩
theorem q440 : (.instanceMethod yX0_known : Cond) ∈ GG := List.mem_filter.mpr ⟨List.mem_of_getElem? (i := 440) (by decide +kernel), by decide +kernel⟩
theorem q441 : (.selects RX0 yX0_known yX0_known : Cond) ∈ GG := List.mem_filter.mpr ⟨List.mem_of_getElem? (i := 441) (by decide +kernel), by decide +kernel⟩
theorem q442 : (.code yX0_known cX0_known 1 (some .int) : Cond) ∈ GG := List.mem_filter.mpr ⟨List.mem_of_getElem? (i := 442) (by decide +kernel), by decide +kernel⟩
theorem q443 : (.methodLink RL 60 yX4_now : Cond) ∈ GG := List.mem_filter.mpr ⟨List.mem_of_getElem? (i := 443) (by decide +kernel), by decide +kernel⟩
theorem q444 : (.instanceMethod yX4_now : Cond) ∈ GG := List.mem_filter.mpr ⟨List.mem_of_getElem? (i := 444) (by decide +kernel), by decide +kernel⟩
theorem q445 : (.selects RX4 yX4_now yX4_now : Cond) ∈ GG := List.mem_filter.mpr ⟨List.mem_of_getElem? (i := 445) (by decide +kernel), by decide +kernel⟩
theorem q446 : (.code yX4_now cX4_now 2 (some .int) : Cond) ∈ GG := List.mem_filter.mpr ⟨List.mem_of_getElem? (i := 446) (by decide +kernel), by decide +kernel⟩
theorem q447 : (.methodLink RX4 158 yX4_outAndGoneSour : Cond) ∈ GG := List.mem_filter.mpr ⟨List.mem_of_getElem? (i := 447) (by decide +kernel), by decide +kernel⟩
theorem q449 : (.instanceMethod yX4_outAndGoneSour : Cond) ∈ GG := List.mem_filter.mpr ⟨List.mem_of_getElem? (i := 449) (by decide +kernel), by decide +kernel⟩
theorem q450 : (.code yX4_outAndGoneSour cX4_outAndGoneSour 3 (some .int) : Cond) ∈ GG := List.mem_filter.mpr ⟨List.mem_of_getElem? (i := 450) (by decide +kernel), by decide +kernel⟩
theorem q451 : (.methodLink RL 64 yX4_when : Cond) ∈ GG := List.mem_filter.mpr ⟨List.mem_of_getElem? (i := 451) (by decide +kernel), by decide +kernel⟩
theorem q452 : (.instanceMethod yX4_when : Cond) ∈ GG := List.mem_filter.mpr ⟨List.mem_of_getElem? (i := 452) (by decide +kernel), by decide +kernel⟩
theorem q453 : (.selects RX4 yX4_when yX4_when : Cond) ∈ GG := List.mem_filter.mpr ⟨List.mem_of_getElem? (i := 453) (by decide +kernel), by decide +kernel⟩
theorem q454 : (.code yX4_when cX4_when 3 (some .int) : Cond) ∈ GG := List.mem_filter.mpr ⟨List.mem_of_getElem? (i := 454) (by decide +kernel), by decide +kernel⟩
theorem q455 : (.methodLink RX4 161 yX0_copyNow : Cond) ∈ GG := List.mem_filter.mpr ⟨List.mem_of_getElem? (i := 455) (by decide +kernel), by decide +kernel⟩
theorem q456 : (.instanceMethod yX0_copyNow : Cond) ∈ GG := List.mem_filter.mpr ⟨List.mem_of_getElem? (i := 456) (by decide +kernel), by decide +kernel⟩
theorem q457 : (.selects RX0 yX0_copyNow yX0_copyNow : Cond) ∈ GG := List.mem_filter.mpr ⟨List.mem_of_getElem? (i := 457) (by decide +kernel), by decide +kernel⟩
theorem q458 : (.code yX0_copyNow cX0_copyNow 2 none : Cond) ∈ GG := List.mem_filter.mpr ⟨List.mem_of_getElem? (i := 458) (by decide +kernel), by decide +kernel⟩
theorem q459 : (.methodLink RL 68 yX4_moved : Cond) ∈ GG := List.mem_filter.mpr ⟨List.mem_of_getElem? (i := 459) (by decide +kernel), by decide +kernel⟩
theorem q460 : (.instanceMethod yX4_moved : Cond) ∈ GG := List.mem_filter.mpr ⟨List.mem_of_getElem? (i := 460) (by decide +kernel), by decide +kernel⟩
theorem q461 : (.selects RX4 yX4_moved yX4_moved : Cond) ∈ GG := List.mem_filter.mpr ⟨List.mem_of_getElem? (i := 461) (by decide +kernel), by decide +kernel⟩
theorem q462 : (.code yX4_moved cX4_moved 4 (some .int) : Cond) ∈ GG := List.mem_filter.mpr ⟨List.mem_of_getElem? (i := 462) (by decide +kernel), by decide +kernel⟩
theorem q463 : (.methodLink RL 72 yX4_order : Cond) ∈ GG := List.mem_filter.mpr ⟨List.mem_of_getElem? (i := 463) (by decide +kernel), by decide +kernel⟩
theorem q464 : (.instanceMethod yX4_order : Cond) ∈ GG := List.mem_filter.mpr ⟨List.mem_of_getElem? (i := 464) (by decide +kernel), by decide +kernel⟩
theorem q465 : (.selects RX4 yX4_order yX4_order : Cond) ∈ GG := List.mem_filter.mpr ⟨List.mem_of_getElem? (i := 465) (by decide +kernel), by decide +kernel⟩
theorem q466 : (.code yX4_order cX4_order 4 (some .int) : Cond) ∈ GG := List.mem_filter.mpr ⟨List.mem_of_getElem? (i := 466) (by decide +kernel), by decide +kernel⟩
theorem q467 : (.methodLink RX4 168 yX1_find : Cond) ∈ GG := List.mem_filter.mpr ⟨List.mem_of_getElem? (i := 467) (by decide +kernel), by decide +kernel⟩
theorem q468 : (.instanceMethod yX1_find : Cond) ∈ GG := List.mem_filter.mpr ⟨List.mem_of_getElem? (i := 468) (by decide +kernel), by decide +kernel⟩
theorem q469 : (.selects RX1 yX1_find yX1_find : Cond) ∈ GG := List.mem_filter.mpr ⟨List.mem_of_getElem? (i := 469) (by decide +kernel), by decide +kernel⟩
theorem q470 : (.code yX1_find cX1_find 7 none : Cond) ∈ GG := List.mem_filter.mpr ⟨List.mem_of_getElem? (i := 470) (by decide +kernel), by decide +kernel⟩
theorem q471 : (.methodLink RX1 25 yX0_minute : Cond) ∈ GG := List.mem_filter.mpr ⟨List.mem_of_getElem? (i := 471) (by decide +kernel), by decide +kernel⟩
theorem q472 : (.methodLink RX1 37 yX3_ofOven : Cond) ∈ GG := List.mem_filter.mpr ⟨List.mem_of_getElem? (i := 472) (by decide +kernel), by decide +kernel⟩
theorem q473 : (.methodLink RX1 43 yX3_doughs : Cond) ∈ GG := List.mem_filter.mpr ⟨List.mem_of_getElem? (i := 473) (by decide +kernel), by decide +kernel⟩
theorem q474 : (.methodLink RX1 46 yX3_ofDough : Cond) ∈ GG := List.mem_filter.mpr ⟨List.mem_of_getElem? (i := 474) (by decide +kernel), by decide +kernel⟩
theorem q476 : (.static yX4_dividedUp : Cond) ∈ GG := List.mem_filter.mpr ⟨List.mem_of_getElem? (i := 476) (by decide +kernel), by decide +kernel⟩
theorem q477 : (.code yX4_dividedUp cX4_dividedUp 2 (some .int) : Cond) ∈ GG := List.mem_filter.mpr ⟨List.mem_of_getElem? (i := 477) (by decide +kernel), by decide +kernel⟩
theorem q478 : (.methodLink RX1 52 yX0_placedAt : Cond) ∈ GG := List.mem_filter.mpr ⟨List.mem_of_getElem? (i := 478) (by decide +kernel), by decide +kernel⟩
theorem q479 : (.methodLink RX1 56 yX1_extend : Cond) ∈ GG := List.mem_filter.mpr ⟨List.mem_of_getElem? (i := 479) (by decide +kernel), by decide +kernel⟩
theorem q481 : (.instanceMethod yX1_extend : Cond) ∈ GG := List.mem_filter.mpr ⟨List.mem_of_getElem? (i := 481) (by decide +kernel), by decide +kernel⟩
theorem q482 : (.code yX1_extend cX1_extend 8 none : Cond) ∈ GG := List.mem_filter.mpr ⟨List.mem_of_getElem? (i := 482) (by decide +kernel), by decide +kernel⟩
theorem q483 : (.methodLink RX1 60 yX1_weigh : Cond) ∈ GG := List.mem_filter.mpr ⟨List.mem_of_getElem? (i := 483) (by decide +kernel), by decide +kernel⟩
theorem q485 : (.instanceMethod yX1_weigh : Cond) ∈ GG := List.mem_filter.mpr ⟨List.mem_of_getElem? (i := 485) (by decide +kernel), by decide +kernel⟩
theorem q486 : (.code yX1_weigh cX1_weigh 3 none : Cond) ∈ GG := List.mem_filter.mpr ⟨List.mem_of_getElem? (i := 486) (by decide +kernel), by decide +kernel⟩
theorem q487 : (.methodLink RX1 69 arraycopyName : Cond) ∈ GG := List.mem_filter.mpr ⟨List.mem_of_getElem? (i := 487) (by decide +kernel), by decide +kernel⟩
theorem q488 : (.methodLink RX1 64 yJ9_max_7cf53 : Cond) ∈ GG := List.mem_filter.mpr ⟨List.mem_of_getElem? (i := 488) (by decide +kernel), by decide +kernel⟩
theorem q489 : (.static yJ9_max_7cf53 : Cond) ∈ GG := List.mem_filter.mpr ⟨List.mem_of_getElem? (i := 489) (by decide +kernel), by decide +kernel⟩
theorem q490 : (.code yJ9_max_7cf53 cJ9_max_7cf53 2 (some .int) : Cond) ∈ GG := List.mem_filter.mpr ⟨List.mem_of_getElem? (i := 490) (by decide +kernel), by decide +kernel⟩
theorem q491 : (.methodLink RX4 172 yX1_bestCount : Cond) ∈ GG := List.mem_filter.mpr ⟨List.mem_of_getElem? (i := 491) (by decide +kernel), by decide +kernel⟩
theorem q492 : (.instanceMethod yX1_bestCount : Cond) ∈ GG := List.mem_filter.mpr ⟨List.mem_of_getElem? (i := 492) (by decide +kernel), by decide +kernel⟩
theorem q493 : (.selects RX1 yX1_bestCount yX1_bestCount : Cond) ∈ GG := List.mem_filter.mpr ⟨List.mem_of_getElem? (i := 493) (by decide +kernel), by decide +kernel⟩
theorem q494 : (.code yX1_bestCount cX1_bestCount 1 (some .int) : Cond) ∈ GG := List.mem_filter.mpr ⟨List.mem_of_getElem? (i := 494) (by decide +kernel), by decide +kernel⟩
theorem q495 : (.methodLink RX4 175 yX1_bestEnd : Cond) ∈ GG := List.mem_filter.mpr ⟨List.mem_of_getElem? (i := 495) (by decide +kernel), by decide +kernel⟩
theorem q496 : (.instanceMethod yX1_bestEnd : Cond) ∈ GG := List.mem_filter.mpr ⟨List.mem_of_getElem? (i := 496) (by decide +kernel), by decide +kernel⟩
theorem q497 : (.selects RX1 yX1_bestEnd yX1_bestEnd : Cond) ∈ GG := List.mem_filter.mpr ⟨List.mem_of_getElem? (i := 497) (by decide +kernel), by decide +kernel⟩
theorem q498 : (.code yX1_bestEnd cX1_bestEnd 1 (some .int) : Cond) ∈ GG := List.mem_filter.mpr ⟨List.mem_of_getElem? (i := 498) (by decide +kernel), by decide +kernel⟩
theorem q499 : (.methodLink RX4 178 yX1_bestAt : Cond) ∈ GG := List.mem_filter.mpr ⟨List.mem_of_getElem? (i := 499) (by decide +kernel), by decide +kernel⟩
theorem q500 : (.instanceMethod yX1_bestAt : Cond) ∈ GG := List.mem_filter.mpr ⟨List.mem_of_getElem? (i := 500) (by decide +kernel), by decide +kernel⟩
theorem q501 : (.selects RX1 yX1_bestAt yX1_bestAt : Cond) ∈ GG := List.mem_filter.mpr ⟨List.mem_of_getElem? (i := 501) (by decide +kernel), by decide +kernel⟩
theorem q502 : (.code yX1_bestAt cX1_bestAt 2 (some .int) : Cond) ∈ GG := List.mem_filter.mpr ⟨List.mem_of_getElem? (i := 502) (by decide +kernel), by decide +kernel⟩
theorem q503 : (.methodLink RL 77 yX4_fire : Cond) ∈ GG := List.mem_filter.mpr ⟨List.mem_of_getElem? (i := 503) (by decide +kernel), by decide +kernel⟩
theorem q504 : (.instanceMethod yX4_fire : Cond) ∈ GG := List.mem_filter.mpr ⟨List.mem_of_getElem? (i := 504) (by decide +kernel), by decide +kernel⟩
theorem q505 : (.selects RX4 yX4_fire yX4_fire : Cond) ∈ GG := List.mem_filter.mpr ⟨List.mem_of_getElem? (i := 505) (by decide +kernel), by decide +kernel⟩
theorem q506 : (.code yX4_fire cX4_fire 4 (some .int) : Cond) ∈ GG := List.mem_filter.mpr ⟨List.mem_of_getElem? (i := 506) (by decide +kernel), by decide +kernel⟩
theorem q507 : (.methodLink RX4 181 yX4_dividedUp : Cond) ∈ GG := List.mem_filter.mpr ⟨List.mem_of_getElem? (i := 507) (by decide +kernel), by decide +kernel⟩
theorem q508 : (.methodLink RL 81 yX4_odds : Cond) ∈ GG := List.mem_filter.mpr ⟨List.mem_of_getElem? (i := 508) (by decide +kernel), by decide +kernel⟩
theorem q509 : (.instanceMethod yX4_odds : Cond) ∈ GG := List.mem_filter.mpr ⟨List.mem_of_getElem? (i := 509) (by decide +kernel), by decide +kernel⟩
theorem q510 : (.selects RX4 yX4_odds yX4_odds : Cond) ∈ GG := List.mem_filter.mpr ⟨List.mem_of_getElem? (i := 510) (by decide +kernel), by decide +kernel⟩
theorem q511 : (.code yX4_odds cX4_odds 9 (some .int) : Cond) ∈ GG := List.mem_filter.mpr ⟨List.mem_of_getElem? (i := 511) (by decide +kernel), by decide +kernel⟩
theorem q512 : (.methodLink RX4 184 yX4_rivalsOf : Cond) ∈ GG := List.mem_filter.mpr ⟨List.mem_of_getElem? (i := 512) (by decide +kernel), by decide +kernel⟩
theorem q514 : (.instanceMethod yX4_rivalsOf : Cond) ∈ GG := List.mem_filter.mpr ⟨List.mem_of_getElem? (i := 514) (by decide +kernel), by decide +kernel⟩
theorem q515 : (.code yX4_rivalsOf cX4_rivalsOf 7 (some .int) : Cond) ∈ GG := List.mem_filter.mpr ⟨List.mem_of_getElem? (i := 515) (by decide +kernel), by decide +kernel⟩
theorem q516 : (.methodLink RX4 187 yX4_commonDivisor : Cond) ∈ GG := List.mem_filter.mpr ⟨List.mem_of_getElem? (i := 516) (by decide +kernel), by decide +kernel⟩
theorem q517 : (.static yX4_commonDivisor : Cond) ∈ GG := List.mem_filter.mpr ⟨List.mem_of_getElem? (i := 517) (by decide +kernel), by decide +kernel⟩
theorem q518 : (.code yX4_commonDivisor cX4_commonDivisor 6 (some .int) : Cond) ∈ GG := List.mem_filter.mpr ⟨List.mem_of_getElem? (i := 518) (by decide +kernel), by decide +kernel⟩
theorem q519 : (.methodLink RL 86 yX4_led : Cond) ∈ GG := List.mem_filter.mpr ⟨List.mem_of_getElem? (i := 519) (by decide +kernel), by decide +kernel⟩
theorem q520 : (.instanceMethod yX4_led : Cond) ∈ GG := List.mem_filter.mpr ⟨List.mem_of_getElem? (i := 520) (by decide +kernel), by decide +kernel⟩
theorem q521 : (.selects RX4 yX4_led yX4_led : Cond) ∈ GG := List.mem_filter.mpr ⟨List.mem_of_getElem? (i := 521) (by decide +kernel), by decide +kernel⟩
theorem q522 : (.code yX4_led cX4_led 3 (some .int) : Cond) ∈ GG := List.mem_filter.mpr ⟨List.mem_of_getElem? (i := 522) (by decide +kernel), by decide +kernel⟩
theorem q523 : (.methodLink RL 90 yX4_forget : Cond) ∈ GG := List.mem_filter.mpr ⟨List.mem_of_getElem? (i := 523) (by decide +kernel), by decide +kernel⟩
theorem q524 : (.instanceMethod yX4_forget : Cond) ∈ GG := List.mem_filter.mpr ⟨List.mem_of_getElem? (i := 524) (by decide +kernel), by decide +kernel⟩
theorem q525 : (.selects RX4 yX4_forget yX4_forget : Cond) ∈ GG := List.mem_filter.mpr ⟨List.mem_of_getElem? (i := 525) (by decide +kernel), by decide +kernel⟩
theorem q526 : (.code yX4_forget cX4_forget 2 (some .int) : Cond) ∈ GG := List.mem_filter.mpr ⟨List.mem_of_getElem? (i := 526) (by decide +kernel), by decide +kernel⟩
theorem q527 : (.methodLink RL 94 yX4_vanilla : Cond) ∈ GG := List.mem_filter.mpr ⟨List.mem_of_getElem? (i := 527) (by decide +kernel), by decide +kernel⟩
theorem q528 : (.instanceMethod yX4_vanilla : Cond) ∈ GG := List.mem_filter.mpr ⟨List.mem_of_getElem? (i := 528) (by decide +kernel), by decide +kernel⟩
theorem q529 : (.selects RX4 yX4_vanilla yX4_vanilla : Cond) ∈ GG := List.mem_filter.mpr ⟨List.mem_of_getElem? (i := 529) (by decide +kernel), by decide +kernel⟩
theorem q530 : (.code yX4_vanilla cX4_vanilla 3 (some .int) : Cond) ∈ GG := List.mem_filter.mpr ⟨List.mem_of_getElem? (i := 530) (by decide +kernel), by decide +kernel⟩
theorem q531 : (.methodLink RX4 190 yX4_allLedWith : Cond) ∈ GG := List.mem_filter.mpr ⟨List.mem_of_getElem? (i := 531) (by decide +kernel), by decide +kernel⟩
theorem q533 : (.instanceMethod yX4_allLedWith : Cond) ∈ GG := List.mem_filter.mpr ⟨List.mem_of_getElem? (i := 533) (by decide +kernel), by decide +kernel⟩
theorem q534 : (.code yX4_allLedWith cX4_allLedWith 4 (some .boolean) : Cond) ∈ GG := List.mem_filter.mpr ⟨List.mem_of_getElem? (i := 534) (by decide +kernel), by decide +kernel⟩
theorem q535 : (.methodLink RL 98 yX4_mark : Cond) ∈ GG := List.mem_filter.mpr ⟨List.mem_of_getElem? (i := 535) (by decide +kernel), by decide +kernel⟩
theorem q536 : (.instanceMethod yX4_mark : Cond) ∈ GG := List.mem_filter.mpr ⟨List.mem_of_getElem? (i := 536) (by decide +kernel), by decide +kernel⟩
theorem q537 : (.selects RX4 yX4_mark yX4_mark : Cond) ∈ GG := List.mem_filter.mpr ⟨List.mem_of_getElem? (i := 537) (by decide +kernel), by decide +kernel⟩
theorem q538 : (.code yX4_mark cX4_mark 3 (some .int) : Cond) ∈ GG := List.mem_filter.mpr ⟨List.mem_of_getElem? (i := 538) (by decide +kernel), by decide +kernel⟩
theorem q539 : (.methodLink RX4 196 yX4_asDough : Cond) ∈ GG := List.mem_filter.mpr ⟨List.mem_of_getElem? (i := 539) (by decide +kernel), by decide +kernel⟩
theorem q541 : (.instanceMethod yX4_asDough : Cond) ∈ GG := List.mem_filter.mpr ⟨List.mem_of_getElem? (i := 541) (by decide +kernel), by decide +kernel⟩
theorem q542 : (.code yX4_asDough cX4_asDough 2 (some .int) : Cond) ∈ GG := List.mem_filter.mpr ⟨List.mem_of_getElem? (i := 542) (by decide +kernel), by decide +kernel⟩
theorem q543 : (.methodLink RX4 199 yX4_asCake : Cond) ∈ GG := List.mem_filter.mpr ⟨List.mem_of_getElem? (i := 543) (by decide +kernel), by decide +kernel⟩
theorem q545 : (.instanceMethod yX4_asCake : Cond) ∈ GG := List.mem_filter.mpr ⟨List.mem_of_getElem? (i := 545) (by decide +kernel), by decide +kernel⟩
theorem q546 : (.code yX4_asCake cX4_asCake 2 (some .int) : Cond) ∈ GG := List.mem_filter.mpr ⟨List.mem_of_getElem? (i := 546) (by decide +kernel), by decide +kernel⟩
theorem q547 : (.constantLong RX4 228 (10) : Cond) ∈ GG := List.mem_filter.mpr ⟨List.mem_of_getElem? (i := 547) (by decide +kernel), by decide +kernel⟩
theorem q548 : (.methodLink RX4 202 yX4_asHerring : Cond) ∈ GG := List.mem_filter.mpr ⟨List.mem_of_getElem? (i := 548) (by decide +kernel), by decide +kernel⟩
theorem q550 : (.instanceMethod yX4_asHerring : Cond) ∈ GG := List.mem_filter.mpr ⟨List.mem_of_getElem? (i := 550) (by decide +kernel), by decide +kernel⟩
theorem q551 : (.code yX4_asHerring cX4_asHerring 2 (some .int) : Cond) ∈ GG := List.mem_filter.mpr ⟨List.mem_of_getElem? (i := 551) (by decide +kernel), by decide +kernel⟩
theorem q552 : (.constantLong RX4 230 (100) : Cond) ∈ GG := List.mem_filter.mpr ⟨List.mem_of_getElem? (i := 552) (by decide +kernel), by decide +kernel⟩
theorem q553 : (.methodLink RX4 205 yX4_asBride : Cond) ∈ GG := List.mem_filter.mpr ⟨List.mem_of_getElem? (i := 553) (by decide +kernel), by decide +kernel⟩
theorem q555 : (.instanceMethod yX4_asBride : Cond) ∈ GG := List.mem_filter.mpr ⟨List.mem_of_getElem? (i := 555) (by decide +kernel), by decide +kernel⟩
theorem q556 : (.code yX4_asBride cX4_asBride 2 (some .int) : Cond) ∈ GG := List.mem_filter.mpr ⟨List.mem_of_getElem? (i := 556) (by decide +kernel), by decide +kernel⟩
theorem q557 : (.constantLong RX4 232 (1000) : Cond) ∈ GG := List.mem_filter.mpr ⟨List.mem_of_getElem? (i := 557) (by decide +kernel), by decide +kernel⟩
theorem q558 : (.methodLink RX4 208 yX4_asWidow : Cond) ∈ GG := List.mem_filter.mpr ⟨List.mem_of_getElem? (i := 558) (by decide +kernel), by decide +kernel⟩
theorem q560 : (.instanceMethod yX4_asWidow : Cond) ∈ GG := List.mem_filter.mpr ⟨List.mem_of_getElem? (i := 560) (by decide +kernel), by decide +kernel⟩
theorem q561 : (.code yX4_asWidow cX4_asWidow 2 (some .int) : Cond) ∈ GG := List.mem_filter.mpr ⟨List.mem_of_getElem? (i := 561) (by decide +kernel), by decide +kernel⟩
theorem q562 : (.constantLong RX4 234 (10000) : Cond) ∈ GG := List.mem_filter.mpr ⟨List.mem_of_getElem? (i := 562) (by decide +kernel), by decide +kernel⟩
theorem q563 : (.methodLink RX4 211 yX4_asSniff : Cond) ∈ GG := List.mem_filter.mpr ⟨List.mem_of_getElem? (i := 563) (by decide +kernel), by decide +kernel⟩
theorem q565 : (.instanceMethod yX4_asSniff : Cond) ∈ GG := List.mem_filter.mpr ⟨List.mem_of_getElem? (i := 565) (by decide +kernel), by decide +kernel⟩
theorem q566 : (.code yX4_asSniff cX4_asSniff 2 (some .int) : Cond) ∈ GG := List.mem_filter.mpr ⟨List.mem_of_getElem? (i := 566) (by decide +kernel), by decide +kernel⟩
theorem q567 : (.constantLong RX4 236 (100000) : Cond) ∈ GG := List.mem_filter.mpr ⟨List.mem_of_getElem? (i := 567) (by decide +kernel), by decide +kernel⟩
theorem q568 : (.methodLink RL 102 yX4_keep : Cond) ∈ GG := List.mem_filter.mpr ⟨List.mem_of_getElem? (i := 568) (by decide +kernel), by decide +kernel⟩
theorem q569 : (.instanceMethod yX4_keep : Cond) ∈ GG := List.mem_filter.mpr ⟨List.mem_of_getElem? (i := 569) (by decide +kernel), by decide +kernel⟩
theorem q570 : (.selects RX4 yX4_keep yX4_keep : Cond) ∈ GG := List.mem_filter.mpr ⟨List.mem_of_getElem? (i := 570) (by decide +kernel), by decide +kernel⟩
theorem q571 : (.code yX4_keep cX4_keep 2 (some .int) : Cond) ∈ GG := List.mem_filter.mpr ⟨List.mem_of_getElem? (i := 571) (by decide +kernel), by decide +kernel⟩
theorem q572 : (.methodLink RX4 214 yX4_imageCourse : Cond) ∈ GG := List.mem_filter.mpr ⟨List.mem_of_getElem? (i := 572) (by decide +kernel), by decide +kernel⟩
theorem q574 : (.instanceMethod yX4_imageCourse : Cond) ∈ GG := List.mem_filter.mpr ⟨List.mem_of_getElem? (i := 574) (by decide +kernel), by decide +kernel⟩
theorem q575 : (.code yX4_imageCourse cX4_imageCourse 2 (some (.object "OvenNoses$Course")) : Cond) ∈ GG := List.mem_filter.mpr ⟨List.mem_of_getElem? (i := 575) (by decide +kernel), by decide +kernel⟩
theorem q576 : (.methodLink RX4 218 yX0_copyAll : Cond) ∈ GG := List.mem_filter.mpr ⟨List.mem_of_getElem? (i := 576) (by decide +kernel), by decide +kernel⟩
theorem q577 : (.instanceMethod yX0_copyAll : Cond) ∈ GG := List.mem_filter.mpr ⟨List.mem_of_getElem? (i := 577) (by decide +kernel), by decide +kernel⟩
theorem q578 : (.selects RX0 yX0_copyAll yX0_copyAll : Cond) ∈ GG := List.mem_filter.mpr ⟨List.mem_of_getElem? (i := 578) (by decide +kernel), by decide +kernel⟩
theorem q579 : (.code yX0_copyAll cX0_copyAll 2 none : Cond) ∈ GG := List.mem_filter.mpr ⟨List.mem_of_getElem? (i := 579) (by decide +kernel), by decide +kernel⟩
theorem q580 : (.methodLink RL 106 yX4_back : Cond) ∈ GG := List.mem_filter.mpr ⟨List.mem_of_getElem? (i := 580) (by decide +kernel), by decide +kernel⟩
theorem q581 : (.instanceMethod yX4_back : Cond) ∈ GG := List.mem_filter.mpr ⟨List.mem_of_getElem? (i := 581) (by decide +kernel), by decide +kernel⟩
theorem q582 : (.selects RX4 yX4_back yX4_back : Cond) ∈ GG := List.mem_filter.mpr ⟨List.mem_of_getElem? (i := 582) (by decide +kernel), by decide +kernel⟩
theorem q583 : (.code yX4_back cX4_back 2 (some .int) : Cond) ∈ GG := List.mem_filter.mpr ⟨List.mem_of_getElem? (i := 583) (by decide +kernel), by decide +kernel⟩
theorem q584 : (.methodLink RL 110 yX4_count : Cond) ∈ GG := List.mem_filter.mpr ⟨List.mem_of_getElem? (i := 584) (by decide +kernel), by decide +kernel⟩
theorem q585 : (.instanceMethod yX4_count : Cond) ∈ GG := List.mem_filter.mpr ⟨List.mem_of_getElem? (i := 585) (by decide +kernel), by decide +kernel⟩
theorem q586 : (.selects RX4 yX4_count yX4_count : Cond) ∈ GG := List.mem_filter.mpr ⟨List.mem_of_getElem? (i := 586) (by decide +kernel), by decide +kernel⟩
theorem q587 : (.code yX4_count cX4_count 2 (some .int) : Cond) ∈ GG := List.mem_filter.mpr ⟨List.mem_of_getElem? (i := 587) (by decide +kernel), by decide +kernel⟩
theorem q588 : (.methodLink RL 114 yX4_trace : Cond) ∈ GG := List.mem_filter.mpr ⟨List.mem_of_getElem? (i := 588) (by decide +kernel), by decide +kernel⟩
theorem q589 : (.instanceMethod yX4_trace : Cond) ∈ GG := List.mem_filter.mpr ⟨List.mem_of_getElem? (i := 589) (by decide +kernel), by decide +kernel⟩
theorem q590 : (.selects RX4 yX4_trace yX4_trace : Cond) ∈ GG := List.mem_filter.mpr ⟨List.mem_of_getElem? (i := 590) (by decide +kernel), by decide +kernel⟩
theorem q591 : (.code yX4_trace cX4_trace 1 (some .long) : Cond) ∈ GG := List.mem_filter.mpr ⟨List.mem_of_getElem? (i := 591) (by decide +kernel), by decide +kernel⟩
theorem q592 : (.classLink RL 10 RX5 : Cond) ∈ GG := List.mem_filter.mpr ⟨List.mem_of_getElem? (i := 592) (by decide +kernel), by decide +kernel⟩
theorem q593 : (.instantiable RX5 17 : Cond) ∈ GG := List.mem_filter.mpr ⟨List.mem_of_getElem? (i := 593) (by decide +kernel), by decide +kernel⟩
theorem q594 : (.methodLink RL 12 yX5_init : Cond) ∈ GG := List.mem_filter.mpr ⟨List.mem_of_getElem? (i := 594) (by decide +kernel), by decide +kernel⟩
theorem q595 : (.instanceMethod yX5_init : Cond) ∈ GG := List.mem_filter.mpr ⟨List.mem_of_getElem? (i := 595) (by decide +kernel), by decide +kernel⟩
theorem q596 : (.code yX5_init cX5_init 1 none : Cond) ∈ GG := List.mem_filter.mpr ⟨List.mem_of_getElem? (i := 596) (by decide +kernel), by decide +kernel⟩
theorem q597 : (.methodLink RX5 1 objectInit : Cond) ∈ GG := List.mem_filter.mpr ⟨List.mem_of_getElem? (i := 597) (by decide +kernel), by decide +kernel⟩
theorem q598 : (.methodLink RX5 42 yX5_reads : Cond) ∈ GG := List.mem_filter.mpr ⟨List.mem_of_getElem? (i := 598) (by decide +kernel), by decide +kernel⟩
theorem q600 : (.instanceMethod yX5_reads : Cond) ∈ GG := List.mem_filter.mpr ⟨List.mem_of_getElem? (i := 600) (by decide +kernel), by decide +kernel⟩
theorem q601 : (.code yX5_reads cX5_reads 2 (some .boolean) : Cond) ∈ GG := List.mem_filter.mpr ⟨List.mem_of_getElem? (i := 601) (by decide +kernel), by decide +kernel⟩
theorem q602 : (.methodLink RX5 79 yX5_token : Cond) ∈ GG := List.mem_filter.mpr ⟨List.mem_of_getElem? (i := 602) (by decide +kernel), by decide +kernel⟩
theorem q604 : (.instanceMethod yX5_token : Cond) ∈ GG := List.mem_filter.mpr ⟨List.mem_of_getElem? (i := 604) (by decide +kernel), by decide +kernel⟩
theorem q605 : (.code yX5_token cX5_token 2 none : Cond) ∈ GG := List.mem_filter.mpr ⟨List.mem_of_getElem? (i := 605) (by decide +kernel), by decide +kernel⟩
theorem q606 : (.methodLink RX5 59 yX5_letterAt : Cond) ∈ GG := List.mem_filter.mpr ⟨List.mem_of_getElem? (i := 606) (by decide +kernel), by decide +kernel⟩
theorem q608 : (.instanceMethod yX5_letterAt : Cond) ∈ GG := List.mem_filter.mpr ⟨List.mem_of_getElem? (i := 608) (by decide +kernel), by decide +kernel⟩
theorem q609 : (.code yX5_letterAt cX5_letterAt 2 (some .int) : Cond) ∈ GG := List.mem_filter.mpr ⟨List.mem_of_getElem? (i := 609) (by decide +kernel), by decide +kernel⟩
theorem q610 : (.methodLink RX5 66 yX5_isLetter : Cond) ∈ GG := List.mem_filter.mpr ⟨List.mem_of_getElem? (i := 610) (by decide +kernel), by decide +kernel⟩
theorem q611 : (.static yX5_isLetter : Cond) ∈ GG := List.mem_filter.mpr ⟨List.mem_of_getElem? (i := 611) (by decide +kernel), by decide +kernel⟩
theorem q612 : (.code yX5_isLetter cX5_isLetter 1 (some .boolean) : Cond) ∈ GG := List.mem_filter.mpr ⟨List.mem_of_getElem? (i := 612) (by decide +kernel), by decide +kernel⟩
theorem q613 : (.methodLink RX5 49 yX5_in : Cond) ∈ GG := List.mem_filter.mpr ⟨List.mem_of_getElem? (i := 613) (by decide +kernel), by decide +kernel⟩
theorem q614 : (.static yX5_in : Cond) ∈ GG := List.mem_filter.mpr ⟨List.mem_of_getElem? (i := 614) (by decide +kernel), by decide +kernel⟩
theorem q615 : (.code yX5_in cX5_in 3 (some .boolean) : Cond) ∈ GG := List.mem_filter.mpr ⟨List.mem_of_getElem? (i := 615) (by decide +kernel), by decide +kernel⟩
theorem q616 : (.methodLink RX5 70 yX5_isDigit : Cond) ∈ GG := List.mem_filter.mpr ⟨List.mem_of_getElem? (i := 616) (by decide +kernel), by decide +kernel⟩
theorem q617 : (.static yX5_isDigit : Cond) ∈ GG := List.mem_filter.mpr ⟨List.mem_of_getElem? (i := 617) (by decide +kernel), by decide +kernel⟩
theorem q618 : (.code yX5_isDigit cX5_isDigit 1 (some .boolean) : Cond) ∈ GG := List.mem_filter.mpr ⟨List.mem_of_getElem? (i := 618) (by decide +kernel), by decide +kernel⟩
theorem q619 : (.methodLink RX5 85 yX5_readsItem : Cond) ∈ GG := List.mem_filter.mpr ⟨List.mem_of_getElem? (i := 619) (by decide +kernel), by decide +kernel⟩
theorem q621 : (.instanceMethod yX5_readsItem : Cond) ∈ GG := List.mem_filter.mpr ⟨List.mem_of_getElem? (i := 621) (by decide +kernel), by decide +kernel⟩
theorem q622 : (.code yX5_readsItem cX5_readsItem 3 (some .boolean) : Cond) ∈ GG := List.mem_filter.mpr ⟨List.mem_of_getElem? (i := 622) (by decide +kernel), by decide +kernel⟩
theorem q623 : (.methodLink RX5 82 yX5_number : Cond) ∈ GG := List.mem_filter.mpr ⟨List.mem_of_getElem? (i := 623) (by decide +kernel), by decide +kernel⟩
theorem q625 : (.instanceMethod yX5_number : Cond) ∈ GG := List.mem_filter.mpr ⟨List.mem_of_getElem? (i := 625) (by decide +kernel), by decide +kernel⟩
theorem q626 : (.code yX5_number cX5_number 4 (some .boolean) : Cond) ∈ GG := List.mem_filter.mpr ⟨List.mem_of_getElem? (i := 626) (by decide +kernel), by decide +kernel⟩
theorem q627 : (.methodLink RX5 46 yX5_begins : Cond) ∈ GG := List.mem_filter.mpr ⟨List.mem_of_getElem? (i := 627) (by decide +kernel), by decide +kernel⟩
theorem q629 : (.instanceMethod yX5_begins : Cond) ∈ GG := List.mem_filter.mpr ⟨List.mem_of_getElem? (i := 629) (by decide +kernel), by decide +kernel⟩
theorem q630 : (.code yX5_begins cX5_begins 2 none : Cond) ∈ GG := List.mem_filter.mpr ⟨List.mem_of_getElem? (i := 630) (by decide +kernel), by decide +kernel⟩
theorem q631 : (.fieldLink RX5 147 RX5 "trace" "J" : Cond) ∈ GG := List.mem_filter.mpr ⟨List.mem_of_getElem? (i := 631) (by decide +kernel), by decide +kernel⟩
theorem q632 : (.fieldLink RX5 7 RX5 "text" "[I" : Cond) ∈ GG := List.mem_filter.mpr ⟨List.mem_of_getElem? (i := 632) (by decide +kernel), by decide +kernel⟩
theorem q633 : (.fieldLink RX5 53 RX5 "typed" "I" : Cond) ∈ GG := List.mem_filter.mpr ⟨List.mem_of_getElem? (i := 633) (by decide +kernel), by decide +kernel⟩
theorem q634 : (.fieldLink RX5 13 RX5 "told" "[I" : Cond) ∈ GG := List.mem_filter.mpr ⟨List.mem_of_getElem? (i := 634) (by decide +kernel), by decide +kernel⟩
theorem q635 : (.fieldLink RX5 16 RX5 "draft" "[I" : Cond) ∈ GG := List.mem_filter.mpr ⟨List.mem_of_getElem? (i := 635) (by decide +kernel), by decide +kernel⟩
theorem q636 : (.fieldLink RX5 19 RX5 "s" "[I" : Cond) ∈ GG := List.mem_filter.mpr ⟨List.mem_of_getElem? (i := 636) (by decide +kernel), by decide +kernel⟩
theorem q637 : (.fieldLink RX5 22 RX5 "images" "[I" : Cond) ∈ GG := List.mem_filter.mpr ⟨List.mem_of_getElem? (i := 637) (by decide +kernel), by decide +kernel⟩
theorem q638 : (.fieldLink RX5 25 RX5 "kept" "[Z" : Cond) ∈ GG := List.mem_filter.mpr ⟨List.mem_of_getElem? (i := 638) (by decide +kernel), by decide +kernel⟩
theorem q639 : (.fieldLink RX5 29 RX5 "notes" "[I" : Cond) ∈ GG := List.mem_filter.mpr ⟨List.mem_of_getElem? (i := 639) (by decide +kernel), by decide +kernel⟩
theorem q640 : (.fieldLink RX5 88 RX5 "noted" "I" : Cond) ∈ GG := List.mem_filter.mpr ⟨List.mem_of_getElem? (i := 640) (by decide +kernel), by decide +kernel⟩
theorem q641 : (.fieldLink RX5 56 RX5 "at" "I" : Cond) ∈ GG := List.mem_filter.mpr ⟨List.mem_of_getElem? (i := 641) (by decide +kernel), by decide +kernel⟩
theorem q642 : (.fieldLink RX5 73 RX5 "sort" "I" : Cond) ∈ GG := List.mem_filter.mpr ⟨List.mem_of_getElem? (i := 642) (by decide +kernel), by decide +kernel⟩
theorem q643 : (.fieldLink RX5 63 RX5 "start" "I" : Cond) ∈ GG := List.mem_filter.mpr ⟨List.mem_of_getElem? (i := 643) (by decide +kernel), by decide +kernel⟩
theorem q644 : (.fieldLink RX5 76 RX5 "value" "I" : Cond) ∈ GG := List.mem_filter.mpr ⟨List.mem_of_getElem? (i := 644) (by decide +kernel), by decide +kernel⟩
theorem q645 : (.fieldLink RX5 32 RX5 "vanillaIn" "I" : Cond) ∈ GG := List.mem_filter.mpr ⟨List.mem_of_getElem? (i := 645) (by decide +kernel), by decide +kernel⟩
theorem q646 : (.fieldLink RX5 36 RX5 "held" "[I" : Cond) ∈ GG := List.mem_filter.mpr ⟨List.mem_of_getElem? (i := 646) (by decide +kernel), by decide +kernel⟩
theorem q647 : (.fieldLink RX5 39 RX5 "soonest" "[I" : Cond) ∈ GG := List.mem_filter.mpr ⟨List.mem_of_getElem? (i := 647) (by decide +kernel), by decide +kernel⟩
theorem q683 : (.arrayClass .boolean : Cond) ∈ GG := List.mem_filter.mpr ⟨List.mem_of_getElem? (i := 683) (by decide +kernel), by decide +kernel⟩
theorem q684 : (.methodLink RL 17 yX5_type : Cond) ∈ GG := List.mem_filter.mpr ⟨List.mem_of_getElem? (i := 684) (by decide +kernel), by decide +kernel⟩
theorem q685 : (.instanceMethod yX5_type : Cond) ∈ GG := List.mem_filter.mpr ⟨List.mem_of_getElem? (i := 685) (by decide +kernel), by decide +kernel⟩
theorem q686 : (.selects RX5 yX5_type yX5_type : Cond) ∈ GG := List.mem_filter.mpr ⟨List.mem_of_getElem? (i := 686) (by decide +kernel), by decide +kernel⟩
theorem q687 : (.code yX5_type cX5_type 2 (some .int) : Cond) ∈ GG := List.mem_filter.mpr ⟨List.mem_of_getElem? (i := 687) (by decide +kernel), by decide +kernel⟩
theorem q688 : (.methodLink RL 22 yX5_clear : Cond) ∈ GG := List.mem_filter.mpr ⟨List.mem_of_getElem? (i := 688) (by decide +kernel), by decide +kernel⟩
theorem q689 : (.instanceMethod yX5_clear : Cond) ∈ GG := List.mem_filter.mpr ⟨List.mem_of_getElem? (i := 689) (by decide +kernel), by decide +kernel⟩
theorem q690 : (.selects RX5 yX5_clear yX5_clear : Cond) ∈ GG := List.mem_filter.mpr ⟨List.mem_of_getElem? (i := 690) (by decide +kernel), by decide +kernel⟩
theorem q691 : (.code yX5_clear cX5_clear 2 (some .int) : Cond) ∈ GG := List.mem_filter.mpr ⟨List.mem_of_getElem? (i := 691) (by decide +kernel), by decide +kernel⟩
theorem q692 : (.methodLink RL 26 yX5_quarter : Cond) ∈ GG := List.mem_filter.mpr ⟨List.mem_of_getElem? (i := 692) (by decide +kernel), by decide +kernel⟩
theorem q693 : (.instanceMethod yX5_quarter : Cond) ∈ GG := List.mem_filter.mpr ⟨List.mem_of_getElem? (i := 693) (by decide +kernel), by decide +kernel⟩
theorem q694 : (.selects RX5 yX5_quarter yX5_quarter : Cond) ∈ GG := List.mem_filter.mpr ⟨List.mem_of_getElem? (i := 694) (by decide +kernel), by decide +kernel⟩
theorem q695 : (.code yX5_quarter cX5_quarter 1 (some .int) : Cond) ∈ GG := List.mem_filter.mpr ⟨List.mem_of_getElem? (i := 695) (by decide +kernel), by decide +kernel⟩
theorem q696 : (.methodLink RL 31 yX5_oven : Cond) ∈ GG := List.mem_filter.mpr ⟨List.mem_of_getElem? (i := 696) (by decide +kernel), by decide +kernel⟩
theorem q697 : (.instanceMethod yX5_oven : Cond) ∈ GG := List.mem_filter.mpr ⟨List.mem_of_getElem? (i := 697) (by decide +kernel), by decide +kernel⟩
theorem q698 : (.selects RX5 yX5_oven yX5_oven : Cond) ∈ GG := List.mem_filter.mpr ⟨List.mem_of_getElem? (i := 698) (by decide +kernel), by decide +kernel⟩
theorem q699 : (.code yX5_oven cX5_oven 3 (some .int) : Cond) ∈ GG := List.mem_filter.mpr ⟨List.mem_of_getElem? (i := 699) (by decide +kernel), by decide +kernel⟩
theorem q700 : (.methodLink RX5 97 yX5_isOven : Cond) ∈ GG := List.mem_filter.mpr ⟨List.mem_of_getElem? (i := 700) (by decide +kernel), by decide +kernel⟩
theorem q702 : (.instanceMethod yX5_isOven : Cond) ∈ GG := List.mem_filter.mpr ⟨List.mem_of_getElem? (i := 702) (by decide +kernel), by decide +kernel⟩
theorem q703 : (.code yX5_isOven cX5_isOven 2 (some .boolean) : Cond) ∈ GG := List.mem_filter.mpr ⟨List.mem_of_getElem? (i := 703) (by decide +kernel), by decide +kernel⟩
theorem q704 : (.constant RX5 100 (-1000000) : Cond) ∈ GG := List.mem_filter.mpr ⟨List.mem_of_getElem? (i := 704) (by decide +kernel), by decide +kernel⟩
theorem q705 : (.methodLink RX5 91 yX5_whereAll : Cond) ∈ GG := List.mem_filter.mpr ⟨List.mem_of_getElem? (i := 705) (by decide +kernel), by decide +kernel⟩
theorem q707 : (.instanceMethod yX5_whereAll : Cond) ∈ GG := List.mem_filter.mpr ⟨List.mem_of_getElem? (i := 707) (by decide +kernel), by decide +kernel⟩
theorem q708 : (.code yX5_whereAll cX5_whereAll 4 (some .int) : Cond) ∈ GG := List.mem_filter.mpr ⟨List.mem_of_getElem? (i := 708) (by decide +kernel), by decide +kernel⟩
theorem q709 : (.methodLink RX5 101 yX5_hot : Cond) ∈ GG := List.mem_filter.mpr ⟨List.mem_of_getElem? (i := 709) (by decide +kernel), by decide +kernel⟩
theorem q711 : (.instanceMethod yX5_hot : Cond) ∈ GG := List.mem_filter.mpr ⟨List.mem_of_getElem? (i := 711) (by decide +kernel), by decide +kernel⟩
theorem q712 : (.code yX5_hot cX5_hot 2 (some .int) : Cond) ∈ GG := List.mem_filter.mpr ⟨List.mem_of_getElem? (i := 712) (by decide +kernel), by decide +kernel⟩
theorem q713 : (.methodLink RX5 94 yX5_ones : Cond) ∈ GG := List.mem_filter.mpr ⟨List.mem_of_getElem? (i := 713) (by decide +kernel), by decide +kernel⟩
theorem q714 : (.static yX5_ones : Cond) ∈ GG := List.mem_filter.mpr ⟨List.mem_of_getElem? (i := 714) (by decide +kernel), by decide +kernel⟩
theorem q715 : (.code yX5_ones cX5_ones 3 (some .int) : Cond) ∈ GG := List.mem_filter.mpr ⟨List.mem_of_getElem? (i := 715) (by decide +kernel), by decide +kernel⟩
theorem q716 : (.methodLink RX5 104 yX5_isShut : Cond) ∈ GG := List.mem_filter.mpr ⟨List.mem_of_getElem? (i := 716) (by decide +kernel), by decide +kernel⟩
theorem q718 : (.instanceMethod yX5_isShut : Cond) ∈ GG := List.mem_filter.mpr ⟨List.mem_of_getElem? (i := 718) (by decide +kernel), by decide +kernel⟩
theorem q719 : (.code yX5_isShut cX5_isShut 2 (some .boolean) : Cond) ∈ GG := List.mem_filter.mpr ⟨List.mem_of_getElem? (i := 719) (by decide +kernel), by decide +kernel⟩
theorem q720 : (.methodLink RL 35 yX5_dough : Cond) ∈ GG := List.mem_filter.mpr ⟨List.mem_of_getElem? (i := 720) (by decide +kernel), by decide +kernel⟩
theorem q721 : (.instanceMethod yX5_dough : Cond) ∈ GG := List.mem_filter.mpr ⟨List.mem_of_getElem? (i := 721) (by decide +kernel), by decide +kernel⟩
theorem q722 : (.selects RX5 yX5_dough yX5_dough : Cond) ∈ GG := List.mem_filter.mpr ⟨List.mem_of_getElem? (i := 722) (by decide +kernel), by decide +kernel⟩
theorem q723 : (.code yX5_dough cX5_dough 3 (some .int) : Cond) ∈ GG := List.mem_filter.mpr ⟨List.mem_of_getElem? (i := 723) (by decide +kernel), by decide +kernel⟩
theorem q724 : (.methodLink RX5 111 yX5_isDough : Cond) ∈ GG := List.mem_filter.mpr ⟨List.mem_of_getElem? (i := 724) (by decide +kernel), by decide +kernel⟩
theorem q726 : (.instanceMethod yX5_isDough : Cond) ∈ GG := List.mem_filter.mpr ⟨List.mem_of_getElem? (i := 726) (by decide +kernel), by decide +kernel⟩
theorem q727 : (.code yX5_isDough cX5_isDough 2 (some .boolean) : Cond) ∈ GG := List.mem_filter.mpr ⟨List.mem_of_getElem? (i := 727) (by decide +kernel), by decide +kernel⟩
theorem q728 : (.methodLink RX5 114 yX5_isOut : Cond) ∈ GG := List.mem_filter.mpr ⟨List.mem_of_getElem? (i := 728) (by decide +kernel), by decide +kernel⟩
theorem q730 : (.instanceMethod yX5_isOut : Cond) ∈ GG := List.mem_filter.mpr ⟨List.mem_of_getElem? (i := 730) (by decide +kernel), by decide +kernel⟩
theorem q731 : (.code yX5_isOut cX5_isOut 2 (some .boolean) : Cond) ∈ GG := List.mem_filter.mpr ⟨List.mem_of_getElem? (i := 731) (by decide +kernel), by decide +kernel⟩
theorem q732 : (.methodLink RX5 117 yX5_noseOf : Cond) ∈ GG := List.mem_filter.mpr ⟨List.mem_of_getElem? (i := 732) (by decide +kernel), by decide +kernel⟩
theorem q734 : (.instanceMethod yX5_noseOf : Cond) ∈ GG := List.mem_filter.mpr ⟨List.mem_of_getElem? (i := 734) (by decide +kernel), by decide +kernel⟩
theorem q735 : (.code yX5_noseOf cX5_noseOf 7 (some .int) : Cond) ∈ GG := List.mem_filter.mpr ⟨List.mem_of_getElem? (i := 735) (by decide +kernel), by decide +kernel⟩
theorem q736 : (.methodLink RX5 107 yX5_smellOf : Cond) ∈ GG := List.mem_filter.mpr ⟨List.mem_of_getElem? (i := 736) (by decide +kernel), by decide +kernel⟩
theorem q738 : (.instanceMethod yX5_smellOf : Cond) ∈ GG := List.mem_filter.mpr ⟨List.mem_of_getElem? (i := 738) (by decide +kernel), by decide +kernel⟩
theorem q739 : (.code yX5_smellOf cX5_smellOf 6 (some .int) : Cond) ∈ GG := List.mem_filter.mpr ⟨List.mem_of_getElem? (i := 739) (by decide +kernel), by decide +kernel⟩
theorem q740 : (.methodLink RL 39 yX5_smell : Cond) ∈ GG := List.mem_filter.mpr ⟨List.mem_of_getElem? (i := 740) (by decide +kernel), by decide +kernel⟩
theorem q741 : (.instanceMethod yX5_smell : Cond) ∈ GG := List.mem_filter.mpr ⟨List.mem_of_getElem? (i := 741) (by decide +kernel), by decide +kernel⟩
theorem q742 : (.selects RX5 yX5_smell yX5_smell : Cond) ∈ GG := List.mem_filter.mpr ⟨List.mem_of_getElem? (i := 742) (by decide +kernel), by decide +kernel⟩
theorem q743 : (.code yX5_smell cX5_smell 3 (some .int) : Cond) ∈ GG := List.mem_filter.mpr ⟨List.mem_of_getElem? (i := 743) (by decide +kernel), by decide +kernel⟩
theorem q744 : (.methodLink RL 43 yX5_follows : Cond) ∈ GG := List.mem_filter.mpr ⟨List.mem_of_getElem? (i := 744) (by decide +kernel), by decide +kernel⟩
theorem q745 : (.instanceMethod yX5_follows : Cond) ∈ GG := List.mem_filter.mpr ⟨List.mem_of_getElem? (i := 745) (by decide +kernel), by decide +kernel⟩
theorem q746 : (.selects RX5 yX5_follows yX5_follows : Cond) ∈ GG := List.mem_filter.mpr ⟨List.mem_of_getElem? (i := 746) (by decide +kernel), by decide +kernel⟩
theorem q747 : (.code yX5_follows cX5_follows 3 (some .int) : Cond) ∈ GG := List.mem_filter.mpr ⟨List.mem_of_getElem? (i := 747) (by decide +kernel), by decide +kernel⟩
theorem q748 : (.methodLink RX5 120 yX5_mayGo : Cond) ∈ GG := List.mem_filter.mpr ⟨List.mem_of_getElem? (i := 748) (by decide +kernel), by decide +kernel⟩
theorem q750 : (.instanceMethod yX5_mayGo : Cond) ∈ GG := List.mem_filter.mpr ⟨List.mem_of_getElem? (i := 750) (by decide +kernel), by decide +kernel⟩
theorem q751 : (.code yX5_mayGo cX5_mayGo 2 (some .boolean) : Cond) ∈ GG := List.mem_filter.mpr ⟨List.mem_of_getElem? (i := 751) (by decide +kernel), by decide +kernel⟩
theorem q752 : (.methodLink RX5 123 yX5_keeps : Cond) ∈ GG := List.mem_filter.mpr ⟨List.mem_of_getElem? (i := 752) (by decide +kernel), by decide +kernel⟩
theorem q754 : (.instanceMethod yX5_keeps : Cond) ∈ GG := List.mem_filter.mpr ⟨List.mem_of_getElem? (i := 754) (by decide +kernel), by decide +kernel⟩
theorem q755 : (.code yX5_keeps cX5_keeps 3 none : Cond) ∈ GG := List.mem_filter.mpr ⟨List.mem_of_getElem? (i := 755) (by decide +kernel), by decide +kernel⟩
theorem q756 : (.methodLink RL 47 yX5_puts : Cond) ∈ GG := List.mem_filter.mpr ⟨List.mem_of_getElem? (i := 756) (by decide +kernel), by decide +kernel⟩
theorem q757 : (.instanceMethod yX5_puts : Cond) ∈ GG := List.mem_filter.mpr ⟨List.mem_of_getElem? (i := 757) (by decide +kernel), by decide +kernel⟩
theorem q758 : (.selects RX5 yX5_puts yX5_puts : Cond) ∈ GG := List.mem_filter.mpr ⟨List.mem_of_getElem? (i := 758) (by decide +kernel), by decide +kernel⟩
theorem q759 : (.code yX5_puts cX5_puts 3 (some .int) : Cond) ∈ GG := List.mem_filter.mpr ⟨List.mem_of_getElem? (i := 759) (by decide +kernel), by decide +kernel⟩
theorem q760 : (.methodLink RL 51 yX5_minutes : Cond) ∈ GG := List.mem_filter.mpr ⟨List.mem_of_getElem? (i := 760) (by decide +kernel), by decide +kernel⟩
theorem q761 : (.instanceMethod yX5_minutes : Cond) ∈ GG := List.mem_filter.mpr ⟨List.mem_of_getElem? (i := 761) (by decide +kernel), by decide +kernel⟩
theorem q762 : (.selects RX5 yX5_minutes yX5_minutes : Cond) ∈ GG := List.mem_filter.mpr ⟨List.mem_of_getElem? (i := 762) (by decide +kernel), by decide +kernel⟩
theorem q763 : (.code yX5_minutes cX5_minutes 4 (some .int) : Cond) ∈ GG := List.mem_filter.mpr ⟨List.mem_of_getElem? (i := 763) (by decide +kernel), by decide +kernel⟩
theorem q764 : (.methodLink RX5 126 yX5_passes : Cond) ∈ GG := List.mem_filter.mpr ⟨List.mem_of_getElem? (i := 764) (by decide +kernel), by decide +kernel⟩
theorem q766 : (.instanceMethod yX5_passes : Cond) ∈ GG := List.mem_filter.mpr ⟨List.mem_of_getElem? (i := 766) (by decide +kernel), by decide +kernel⟩
theorem q767 : (.code yX5_passes cX5_passes 3 (some .int) : Cond) ∈ GG := List.mem_filter.mpr ⟨List.mem_of_getElem? (i := 767) (by decide +kernel), by decide +kernel⟩
theorem q768 : (.methodLink RL 55 yX5_shuts : Cond) ∈ GG := List.mem_filter.mpr ⟨List.mem_of_getElem? (i := 768) (by decide +kernel), by decide +kernel⟩
theorem q769 : (.instanceMethod yX5_shuts : Cond) ∈ GG := List.mem_filter.mpr ⟨List.mem_of_getElem? (i := 769) (by decide +kernel), by decide +kernel⟩
theorem q770 : (.selects RX5 yX5_shuts yX5_shuts : Cond) ∈ GG := List.mem_filter.mpr ⟨List.mem_of_getElem? (i := 770) (by decide +kernel), by decide +kernel⟩
theorem q771 : (.code yX5_shuts cX5_shuts 3 (some .int) : Cond) ∈ GG := List.mem_filter.mpr ⟨List.mem_of_getElem? (i := 771) (by decide +kernel), by decide +kernel⟩
theorem q772 : (.methodLink RL 59 yX5_undo : Cond) ∈ GG := List.mem_filter.mpr ⟨List.mem_of_getElem? (i := 772) (by decide +kernel), by decide +kernel⟩
theorem q773 : (.instanceMethod yX5_undo : Cond) ∈ GG := List.mem_filter.mpr ⟨List.mem_of_getElem? (i := 773) (by decide +kernel), by decide +kernel⟩
theorem q774 : (.selects RX5 yX5_undo yX5_undo : Cond) ∈ GG := List.mem_filter.mpr ⟨List.mem_of_getElem? (i := 774) (by decide +kernel), by decide +kernel⟩
theorem q775 : (.code yX5_undo cX5_undo 3 (some .int) : Cond) ∈ GG := List.mem_filter.mpr ⟨List.mem_of_getElem? (i := 775) (by decide +kernel), by decide +kernel⟩
theorem q776 : (.methodLink RL 63 yX5_now : Cond) ∈ GG := List.mem_filter.mpr ⟨List.mem_of_getElem? (i := 776) (by decide +kernel), by decide +kernel⟩
theorem q777 : (.instanceMethod yX5_now : Cond) ∈ GG := List.mem_filter.mpr ⟨List.mem_of_getElem? (i := 777) (by decide +kernel), by decide +kernel⟩
theorem q778 : (.selects RX5 yX5_now yX5_now : Cond) ∈ GG := List.mem_filter.mpr ⟨List.mem_of_getElem? (i := 778) (by decide +kernel), by decide +kernel⟩
theorem q779 : (.code yX5_now cX5_now 4 (some .int) : Cond) ∈ GG := List.mem_filter.mpr ⟨List.mem_of_getElem? (i := 779) (by decide +kernel), by decide +kernel⟩
theorem q780 : (.methodLink RL 67 yX5_when : Cond) ∈ GG := List.mem_filter.mpr ⟨List.mem_of_getElem? (i := 780) (by decide +kernel), by decide +kernel⟩
theorem q781 : (.instanceMethod yX5_when : Cond) ∈ GG := List.mem_filter.mpr ⟨List.mem_of_getElem? (i := 781) (by decide +kernel), by decide +kernel⟩
theorem q782 : (.selects RX5 yX5_when yX5_when : Cond) ∈ GG := List.mem_filter.mpr ⟨List.mem_of_getElem? (i := 782) (by decide +kernel), by decide +kernel⟩
theorem q783 : (.code yX5_when cX5_when 4 (some .int) : Cond) ∈ GG := List.mem_filter.mpr ⟨List.mem_of_getElem? (i := 783) (by decide +kernel), by decide +kernel⟩
theorem q784 : (.methodLink RX5 130 yX5_holds : Cond) ∈ GG := List.mem_filter.mpr ⟨List.mem_of_getElem? (i := 784) (by decide +kernel), by decide +kernel⟩
theorem q786 : (.instanceMethod yX5_holds : Cond) ∈ GG := List.mem_filter.mpr ⟨List.mem_of_getElem? (i := 786) (by decide +kernel), by decide +kernel⟩
theorem q787 : (.code yX5_holds cX5_holds 2 none : Cond) ∈ GG := List.mem_filter.mpr ⟨List.mem_of_getElem? (i := 787) (by decide +kernel), by decide +kernel⟩
theorem q788 : (.methodLink RX5 133 yX5_lets : Cond) ∈ GG := List.mem_filter.mpr ⟨List.mem_of_getElem? (i := 788) (by decide +kernel), by decide +kernel⟩
theorem q790 : (.instanceMethod yX5_lets : Cond) ∈ GG := List.mem_filter.mpr ⟨List.mem_of_getElem? (i := 790) (by decide +kernel), by decide +kernel⟩
theorem q791 : (.code yX5_lets cX5_lets 2 none : Cond) ∈ GG := List.mem_filter.mpr ⟨List.mem_of_getElem? (i := 791) (by decide +kernel), by decide +kernel⟩
theorem q792 : (.methodLink RL 71 yX5_moved : Cond) ∈ GG := List.mem_filter.mpr ⟨List.mem_of_getElem? (i := 792) (by decide +kernel), by decide +kernel⟩
theorem q793 : (.instanceMethod yX5_moved : Cond) ∈ GG := List.mem_filter.mpr ⟨List.mem_of_getElem? (i := 793) (by decide +kernel), by decide +kernel⟩
theorem q794 : (.selects RX5 yX5_moved yX5_moved : Cond) ∈ GG := List.mem_filter.mpr ⟨List.mem_of_getElem? (i := 794) (by decide +kernel), by decide +kernel⟩
theorem q795 : (.code yX5_moved cX5_moved 4 (some .int) : Cond) ∈ GG := List.mem_filter.mpr ⟨List.mem_of_getElem? (i := 795) (by decide +kernel), by decide +kernel⟩
theorem q796 : (.methodLink RL 76 yX5_order : Cond) ∈ GG := List.mem_filter.mpr ⟨List.mem_of_getElem? (i := 796) (by decide +kernel), by decide +kernel⟩
theorem q797 : (.instanceMethod yX5_order : Cond) ∈ GG := List.mem_filter.mpr ⟨List.mem_of_getElem? (i := 797) (by decide +kernel), by decide +kernel⟩
theorem q798 : (.selects RX5 yX5_order yX5_order : Cond) ∈ GG := List.mem_filter.mpr ⟨List.mem_of_getElem? (i := 798) (by decide +kernel), by decide +kernel⟩
theorem q799 : (.code yX5_order cX5_order 12 (some .int) : Cond) ∈ GG := List.mem_filter.mpr ⟨List.mem_of_getElem? (i := 799) (by decide +kernel), by decide +kernel⟩
theorem q800 : (.methodLink RX5 140 yX5_reckons : Cond) ∈ GG := List.mem_filter.mpr ⟨List.mem_of_getElem? (i := 800) (by decide +kernel), by decide +kernel⟩
theorem q802 : (.instanceMethod yX5_reckons : Cond) ∈ GG := List.mem_filter.mpr ⟨List.mem_of_getElem? (i := 802) (by decide +kernel), by decide +kernel⟩
theorem q803 : (.code yX5_reckons cX5_reckons 10 none : Cond) ∈ GG := List.mem_filter.mpr ⟨List.mem_of_getElem? (i := 803) (by decide +kernel), by decide +kernel⟩
theorem q804 : (.methodLink RX5 136 yX5_doneBy : Cond) ∈ GG := List.mem_filter.mpr ⟨List.mem_of_getElem? (i := 804) (by decide +kernel), by decide +kernel⟩
theorem q806 : (.instanceMethod yX5_doneBy : Cond) ∈ GG := List.mem_filter.mpr ⟨List.mem_of_getElem? (i := 806) (by decide +kernel), by decide +kernel⟩
theorem q807 : (.code yX5_doneBy cX5_doneBy 8 (some .int) : Cond) ∈ GG := List.mem_filter.mpr ⟨List.mem_of_getElem? (i := 807) (by decide +kernel), by decide +kernel⟩
theorem q808 : (.methodLink RX5 144 yX5_soonestOf : Cond) ∈ GG := List.mem_filter.mpr ⟨List.mem_of_getElem? (i := 808) (by decide +kernel), by decide +kernel⟩
theorem q810 : (.instanceMethod yX5_soonestOf : Cond) ∈ GG := List.mem_filter.mpr ⟨List.mem_of_getElem? (i := 810) (by decide +kernel), by decide +kernel⟩
theorem q811 : (.code yX5_soonestOf cX5_soonestOf 5 (some .int) : Cond) ∈ GG := List.mem_filter.mpr ⟨List.mem_of_getElem? (i := 811) (by decide +kernel), by decide +kernel⟩
theorem q812 : (.methodLink RL 80 yX5_fire : Cond) ∈ GG := List.mem_filter.mpr ⟨List.mem_of_getElem? (i := 812) (by decide +kernel), by decide +kernel⟩
theorem q813 : (.instanceMethod yX5_fire : Cond) ∈ GG := List.mem_filter.mpr ⟨List.mem_of_getElem? (i := 813) (by decide +kernel), by decide +kernel⟩
theorem q814 : (.selects RX5 yX5_fire yX5_fire : Cond) ∈ GG := List.mem_filter.mpr ⟨List.mem_of_getElem? (i := 814) (by decide +kernel), by decide +kernel⟩
theorem q815 : (.code yX5_fire cX5_fire 4 (some .int) : Cond) ∈ GG := List.mem_filter.mpr ⟨List.mem_of_getElem? (i := 815) (by decide +kernel), by decide +kernel⟩
theorem q816 : (.methodLink RL 85 yX5_odds : Cond) ∈ GG := List.mem_filter.mpr ⟨List.mem_of_getElem? (i := 816) (by decide +kernel), by decide +kernel⟩
theorem q817 : (.instanceMethod yX5_odds : Cond) ∈ GG := List.mem_filter.mpr ⟨List.mem_of_getElem? (i := 817) (by decide +kernel), by decide +kernel⟩
theorem q818 : (.selects RX5 yX5_odds yX5_odds : Cond) ∈ GG := List.mem_filter.mpr ⟨List.mem_of_getElem? (i := 818) (by decide +kernel), by decide +kernel⟩
theorem q819 : (.code yX5_odds cX5_odds 10 (some .int) : Cond) ∈ GG := List.mem_filter.mpr ⟨List.mem_of_getElem? (i := 819) (by decide +kernel), by decide +kernel⟩
theorem q820 : (.methodLink RL 89 yX5_led : Cond) ∈ GG := List.mem_filter.mpr ⟨List.mem_of_getElem? (i := 820) (by decide +kernel), by decide +kernel⟩
theorem q821 : (.instanceMethod yX5_led : Cond) ∈ GG := List.mem_filter.mpr ⟨List.mem_of_getElem? (i := 821) (by decide +kernel), by decide +kernel⟩
theorem q822 : (.selects RX5 yX5_led yX5_led : Cond) ∈ GG := List.mem_filter.mpr ⟨List.mem_of_getElem? (i := 822) (by decide +kernel), by decide +kernel⟩
theorem q823 : (.code yX5_led cX5_led 3 (some .int) : Cond) ∈ GG := List.mem_filter.mpr ⟨List.mem_of_getElem? (i := 823) (by decide +kernel), by decide +kernel⟩
theorem q824 : (.methodLink RL 93 yX5_forget : Cond) ∈ GG := List.mem_filter.mpr ⟨List.mem_of_getElem? (i := 824) (by decide +kernel), by decide +kernel⟩
theorem q825 : (.instanceMethod yX5_forget : Cond) ∈ GG := List.mem_filter.mpr ⟨List.mem_of_getElem? (i := 825) (by decide +kernel), by decide +kernel⟩
theorem q826 : (.selects RX5 yX5_forget yX5_forget : Cond) ∈ GG := List.mem_filter.mpr ⟨List.mem_of_getElem? (i := 826) (by decide +kernel), by decide +kernel⟩
theorem q827 : (.code yX5_forget cX5_forget 2 (some .int) : Cond) ∈ GG := List.mem_filter.mpr ⟨List.mem_of_getElem? (i := 827) (by decide +kernel), by decide +kernel⟩
theorem q828 : (.methodLink RL 97 yX5_vanilla : Cond) ∈ GG := List.mem_filter.mpr ⟨List.mem_of_getElem? (i := 828) (by decide +kernel), by decide +kernel⟩
theorem q829 : (.instanceMethod yX5_vanilla : Cond) ∈ GG := List.mem_filter.mpr ⟨List.mem_of_getElem? (i := 829) (by decide +kernel), by decide +kernel⟩
theorem q830 : (.selects RX5 yX5_vanilla yX5_vanilla : Cond) ∈ GG := List.mem_filter.mpr ⟨List.mem_of_getElem? (i := 830) (by decide +kernel), by decide +kernel⟩
theorem q831 : (.code yX5_vanilla cX5_vanilla 6 (some .int) : Cond) ∈ GG := List.mem_filter.mpr ⟨List.mem_of_getElem? (i := 831) (by decide +kernel), by decide +kernel⟩
theorem q832 : (.methodLink RL 101 yX5_mark : Cond) ∈ GG := List.mem_filter.mpr ⟨List.mem_of_getElem? (i := 832) (by decide +kernel), by decide +kernel⟩
theorem q833 : (.instanceMethod yX5_mark : Cond) ∈ GG := List.mem_filter.mpr ⟨List.mem_of_getElem? (i := 833) (by decide +kernel), by decide +kernel⟩
theorem q834 : (.selects RX5 yX5_mark yX5_mark : Cond) ∈ GG := List.mem_filter.mpr ⟨List.mem_of_getElem? (i := 834) (by decide +kernel), by decide +kernel⟩
theorem q835 : (.code yX5_mark cX5_mark 6 (some .int) : Cond) ∈ GG := List.mem_filter.mpr ⟨List.mem_of_getElem? (i := 835) (by decide +kernel), by decide +kernel⟩
theorem q836 : (.constantLong RX5 151 (11) : Cond) ∈ GG := List.mem_filter.mpr ⟨List.mem_of_getElem? (i := 836) (by decide +kernel), by decide +kernel⟩
theorem q837 : (.constantLong RX5 153 (101) : Cond) ∈ GG := List.mem_filter.mpr ⟨List.mem_of_getElem? (i := 837) (by decide +kernel), by decide +kernel⟩
theorem q838 : (.constantLong RX5 155 (1011) : Cond) ∈ GG := List.mem_filter.mpr ⟨List.mem_of_getElem? (i := 838) (by decide +kernel), by decide +kernel⟩
theorem q839 : (.constantLong RX5 157 (10101) : Cond) ∈ GG := List.mem_filter.mpr ⟨List.mem_of_getElem? (i := 839) (by decide +kernel), by decide +kernel⟩
theorem q840 : (.constantLong RX5 159 (100001) : Cond) ∈ GG := List.mem_filter.mpr ⟨List.mem_of_getElem? (i := 840) (by decide +kernel), by decide +kernel⟩
theorem q841 : (.methodLink RL 105 yX5_keep : Cond) ∈ GG := List.mem_filter.mpr ⟨List.mem_of_getElem? (i := 841) (by decide +kernel), by decide +kernel⟩
theorem q842 : (.instanceMethod yX5_keep : Cond) ∈ GG := List.mem_filter.mpr ⟨List.mem_of_getElem? (i := 842) (by decide +kernel), by decide +kernel⟩
theorem q843 : (.selects RX5 yX5_keep yX5_keep : Cond) ∈ GG := List.mem_filter.mpr ⟨List.mem_of_getElem? (i := 843) (by decide +kernel), by decide +kernel⟩
theorem q844 : (.code yX5_keep cX5_keep 3 (some .int) : Cond) ∈ GG := List.mem_filter.mpr ⟨List.mem_of_getElem? (i := 844) (by decide +kernel), by decide +kernel⟩
theorem q845 : (.methodLink RL 109 yX5_back : Cond) ∈ GG := List.mem_filter.mpr ⟨List.mem_of_getElem? (i := 845) (by decide +kernel), by decide +kernel⟩
theorem q846 : (.instanceMethod yX5_back : Cond) ∈ GG := List.mem_filter.mpr ⟨List.mem_of_getElem? (i := 846) (by decide +kernel), by decide +kernel⟩
theorem q847 : (.selects RX5 yX5_back yX5_back : Cond) ∈ GG := List.mem_filter.mpr ⟨List.mem_of_getElem? (i := 847) (by decide +kernel), by decide +kernel⟩
theorem q848 : (.code yX5_back cX5_back 3 (some .int) : Cond) ∈ GG := List.mem_filter.mpr ⟨List.mem_of_getElem? (i := 848) (by decide +kernel), by decide +kernel⟩
theorem q849 : (.methodLink RL 113 yX5_count : Cond) ∈ GG := List.mem_filter.mpr ⟨List.mem_of_getElem? (i := 849) (by decide +kernel), by decide +kernel⟩
theorem q850 : (.instanceMethod yX5_count : Cond) ∈ GG := List.mem_filter.mpr ⟨List.mem_of_getElem? (i := 850) (by decide +kernel), by decide +kernel⟩
theorem q851 : (.selects RX5 yX5_count yX5_count : Cond) ∈ GG := List.mem_filter.mpr ⟨List.mem_of_getElem? (i := 851) (by decide +kernel), by decide +kernel⟩
theorem q852 : (.code yX5_count cX5_count 2 (some .int) : Cond) ∈ GG := List.mem_filter.mpr ⟨List.mem_of_getElem? (i := 852) (by decide +kernel), by decide +kernel⟩
theorem q853 : (.methodLink RL 118 yX5_trace : Cond) ∈ GG := List.mem_filter.mpr ⟨List.mem_of_getElem? (i := 853) (by decide +kernel), by decide +kernel⟩
theorem q854 : (.instanceMethod yX5_trace : Cond) ∈ GG := List.mem_filter.mpr ⟨List.mem_of_getElem? (i := 854) (by decide +kernel), by decide +kernel⟩
theorem q855 : (.selects RX5 yX5_trace yX5_trace : Cond) ∈ GG := List.mem_filter.mpr ⟨List.mem_of_getElem? (i := 855) (by decide +kernel), by decide +kernel⟩
theorem q856 : (.code yX5_trace cX5_trace 1 (some .long) : Cond) ∈ GG := List.mem_filter.mpr ⟨List.mem_of_getElem? (i := 856) (by decide +kernel), by decide +kernel⟩
end
section
/-! what all methods share: the world, the room by levels, contracts in functional form, one row a call -/
abbrev classes : List vw_C := [(RX0, TX0, 2), (RX1, TX1, 6), (RX2, TX2, 6), (RX3, TX3, 4), (RX4, TX4, 13), (RX5, TX5, 17)]
abbrev Ev : Type := va_G × ClassId × ClassId × Nat × Nat × Nat
abbrev TY (E : Ev) : List (ClassId × FieldType) := [(E.2.1, .int), (E.2.2.1, .boolean)]
abbrev RM (L : Nat) : Room := { frames := L, cells := 0, slots := 0, locals := 64 * L }
abbrev wG (y : MethodName) (b : ByteArray) (n : Nat) (r : Option FieldType) : List Cond := .code y b n r :: GG
def nestW : Cond := .methodLinkNest RX1 49 yX4_dividedUp "OvenNoses"
def tO2 : Nat → Int32 := fun j => match j with | 0 => 40 | _ => 18
def tL5 : Nat → Int32 := fun j => match j with | 2 => 1 | _ => 0
def tM5 : Nat → Int32 := fun j => match j with | 0 => 9 | 1 => 9 | 2 => 99 | 3 => 60 | _ => 99
def KK (E : Ev) (A : Nat → Prop) (U : State) (H : Heap) : Prop :=
  va_K E.1 classes (TY E) U ∧ va_Nw nestW U ∧
  (va_Z RX2 "OVEN_MOSTS" "[I" (.ref E.2.2.2.1) A U H ∧ va_T .int E.2.2.2.1 2 (fun j => .int (tO2 j)) A U H) ∧
  (va_Z RX2 "DOUGH_LEASTS" "[I" (.ref E.2.2.2.2.1) A U H ∧ va_T .int E.2.2.2.2.1 5 (fun j => .int (tL5 j)) A U H) ∧
  (va_Z RX2 "DOUGH_MOSTS" "[I" (.ref E.2.2.2.2.2) A U H ∧ va_T .int E.2.2.2.2.2 5 (fun j => .int (tM5 j)) A U H)
theorem KK.pass {E : Ev} {A0 A1 : Nat → Prop} {s U : State} {H : Heap} {locs : List Loc} (h : KK E A0 s s.heap) (hS : va_S A0 s.heap H locs) (hA : ∀ q, A1 q → A0 q) (hU : U.heap = H) (hW : s.WarmedH U.vm) : KK E A1 U U.heap := by
  obtain ⟨h1, h2, ⟨z1, t1⟩, ⟨z2, t2⟩, ⟨z3, t3⟩⟩ := h
  have k : ∀ a : Nat, a < s.heap.size → ¬ A0 a → H[a]? = s.heap[a]? := fun a ha hn => hS.2.1 a ha hn
  rw [hU]
  exact ⟨va_K.moved hW.alike h1, va_Nw.warmM hW h2, ⟨((z1.kept k).moved hW.alike).narrow hA, ((t1.kept k).moved hW.alike).narrow hA⟩, ⟨((z2.kept k).moved hW.alike).narrow hA, ((t2.kept k).moved hW.alike).narrow hA⟩, ⟨((z3.kept k).moved hW.alike).narrow hA, ((t3.kept k).moved hW.alike).narrow hA⟩⟩
theorem KK.calling {E : Ev} {A : Nat → Prop} {U : State} {g : JFrame} {mk : MethodId} {a : Array Value} (h : KK E A U U.heap) : KK E A (U.calling g mk a) (U.calling g mk a).heap := by
  obtain ⟨h1, h2, ⟨z1, t1⟩, ⟨z2, t2⟩, ⟨z3, t3⟩⟩ := h
  have e : U.vm.Alike (U.calling g mk a).vm := Vm.Alike.refl U.vm
  exact ⟨va_K.moved e h1, va_Nw.same rfl rfl h2, ⟨z1.moved e, t1.moved e⟩, ⟨z2.moved e, t2.moved e⟩, ⟨z3.moved e, t3.moved e⟩⟩
/-- what a method's walk stands on -/
abbrev Cx (p : Program) (s : State) (m : MethodId) (args : Array Value) (meth : Method) (c : Code) (cc : ByteArray) (nL : Nat) (own : String) (rt : Option FieldType) : Prop :=
  p.tables.exec = Jvm.exec ∧ c.code = cc ∧ c.maxLocals = nL ∧ s.vm.findClass own = some m.cls ∧ (∀ w ∈ GG, w.before args s = true) ∧ meth.sig.returnType = rt ∧ meth.locks = false
/-- a method that changes nothing and answers an int -/
def PureI (l : Launch) (E : Ev) (L : Nat) (y : MethodName) (b : ByteArray) (n : Nat) (rt : FieldType) (av : List Value) (ws : va_W) (r : Int32) : Prop :=
  ∀ sz : Nat, Met l y (wG y b n (some rt)) (RM L) (va_Pc av (fun U => U.heap.size = sz ∧ va_P E.1 classes ws U.heap ∧ KK E (fun q => sz ≤ q) U U.heap)) (va_Qi (fun (r' : Int32) (_ : Unit) => r' = r) (fun _ _ => True) (fun q => sz ≤ q)) 0 0 (fun q => sz ≤ q)
def PureL (l : Launch) (E : Ev) (L : Nat) (y : MethodName) (b : ByteArray) (n : Nat) (av : List Value) (ws : va_W) (r : Int64) : Prop :=
  ∀ sz : Nat, Met l y (wG y b n (some .long)) (RM L) (va_Pc av (fun U => U.heap.size = sz ∧ va_P E.1 classes ws U.heap ∧ KK E (fun q => sz ≤ q) U U.heap)) (va_Ql (fun (r' : Int64) (_ : Unit) => r' = r) (fun _ _ => True) (fun q => sz ≤ q)) 0 0 (fun q => sz ≤ q)
def PureR (l : Launch) (E : Ev) (L : Nat) (y : MethodName) (b : ByteArray) (n : Nat) (rt : FieldType) (av : List Value) (ws : va_W) (a : Nat) : Prop :=
  ∀ sz : Nat, Met l y (wG y b n (some rt)) (RM L) (va_Pc av (fun U => U.heap.size = sz ∧ va_P E.1 classes ws U.heap ∧ KK E (fun q => sz ≤ q) U U.heap)) (va_Qr (fun (_ : Unit) => True) (fun _ a' _ => a' = a) (fun q => sz ≤ q)) 0 0 (fun q => sz ≤ q)
/-- a method that changes its world's cells -/
def MutI (l : Launch) (E : Ev) (L : Nat) (y : MethodName) (b : ByteArray) (n : Nat) (rt : FieldType) (av : List Value) (ws ws' : va_W) (r : Int32) : Prop :=
  ∀ sz : Nat, Met l y (wG y b n (some rt)) (RM L) (va_Pc av (fun U => U.heap.size = sz ∧ va_P E.1 classes ws U.heap ∧ KK E (va_A ws sz) U U.heap ∧ va_D (fun _ => True) ws)) (va_Qi (fun (r' : Int32) (_ : Unit) => r' = r) (fun _ t => va_P E.1 classes ws' t.heap) (va_A ws sz)) 0 0 (va_A ws sz)
def MutV (l : Launch) (E : Ev) (L : Nat) (y : MethodName) (b : ByteArray) (n : Nat) (av : List Value) (ws ws' : va_W) : Prop :=
  ∀ sz : Nat, Met l y (wG y b n none) (RM L) (va_Pc av (fun U => U.heap.size = sz ∧ va_P E.1 classes ws U.heap ∧ KK E (va_A ws sz) U U.heap ∧ va_D (fun _ => True) ws)) (va_Qv (fun (_ : Unit) => True) (fun _ t => va_P E.1 classes ws' t.heap) (va_A ws sz)) 0 0 (va_A ws sz)
/-- what a return gives -/
def RetI (p : Program) (l : Launch) (e : Env) (R : Room) (s : State) (m : MethodId) (args : Array Value) (below : List Frame) (meth : Method) (c : Code) (Q : State → Prop) (E : Ev) (A : Nat → Prop) (cc : ByteArray) (rt : FieldType) (ws : va_W) (r : Int32) : Prop :=
  ∀ (H : Heap) (locs : List Loc) (pc : Nat) (ls : Array Slot), narrow rt (.int r) = .int r → va_P E.1 classes ws H → va_S A s.heap H locs → decode cc pc = .ok (.ireturn, 1) → W p l e R s m args below meth c H locs 0 0 Q (F0 m pc ls [.int r])
def RetL (p : Program) (l : Launch) (e : Env) (R : Room) (s : State) (m : MethodId) (args : Array Value) (below : List Frame) (meth : Method) (c : Code) (Q : State → Prop) (E : Ev) (A : Nat → Prop) (cc : ByteArray) (ws : va_W) (r : Int64) : Prop :=
  ∀ (H : Heap) (locs : List Loc) (pc : Nat) (ls : Array Slot), va_P E.1 classes ws H → va_S A s.heap H locs → decode cc pc = .ok (.lreturn, 1) → W p l e R s m args below meth c H locs 0 0 Q (F0 m pc ls [.long r])
def RetR (p : Program) (l : Launch) (e : Env) (R : Room) (s : State) (m : MethodId) (args : Array Value) (below : List Frame) (meth : Method) (c : Code) (Q : State → Prop) (E : Ev) (A : Nat → Prop) (cc : ByteArray) (ws : va_W) (r : Nat) : Prop :=
  ∀ (H : Heap) (locs : List Loc) (pc : Nat) (ls : Array Slot), va_P E.1 classes ws H → va_S A s.heap H locs → decode cc pc = .ok (.areturn, 1) → W p l e R s m args below meth c H locs 0 0 Q (F0 m pc ls [.ref r])
def RetV (p : Program) (l : Launch) (e : Env) (R : Room) (s : State) (m : MethodId) (args : Array Value) (below : List Frame) (meth : Method) (c : Code) (Q : State → Prop) (E : Ev) (A : Nat → Prop) (cc : ByteArray) (ws : va_W) : Prop :=
  ∀ (H : Heap) (locs : List Loc) (pc : Nat) (ls : Array Slot), va_P E.1 classes ws H → va_S A s.heap H locs → decode cc pc = .ok (.return_, 1) → W p l e R s m args below meth c H locs 0 0 Q (F0 m pc ls [])
theorem P_at {D : va_G} {ws : va_W} {H : Heap} {t : State} (ht : t.heap = H) (hP : va_P D classes ws H) : va_P D classes ws t.heap := by rw [ht]; exact hP
section OF
variable {l : Launch} {E : Ev} {L : Nat} {y : MethodName} {b : ByteArray} {n : Nat} {rt : FieldType} {av : List Value} {ws ws' : va_W}
theorem PureI.of {r : Int32} (hy : plainName y.cls = true) (hlen : (lg_sl av).length ≤ n)
    (body : ∀ (p : Program) (e : Env) (s : State) (m : MethodId) (args : Array Value) (below : List Frame) (meth : Method) (c : Code) (Q : State → Prop) (A : Nat → Prop), Cx p s m args meth c b n y.cls (some rt) → KK E A s s.heap → (∀ q, s.heap.size ≤ q → A q) → RetI p l e (RM L) s m args below meth c Q E A b rt ws r →
      ∀ (H : Heap) (locs : List Loc) (ls : Array Slot), lv_has ls n (lv_args 0 av) → va_P E.1 classes ws H → va_S A s.heap H locs → W p l e (RM L) s m args below meth c H locs 0 0 Q (F0 m 0 ls [])) : PureI l E L y b n rt av ws r := by
  intro sz
  refine Met.ofW (cc := b) (maxL := n) (ret := some rt) hy rfl ?_
  intro p e s m args below meth c s₁ B hml hv
  obtain ⟨rfl, hsz, hP, hK⟩ := hv
  subst hsz
  have hl := lv_entry av hlen
  rw [lg_entry_eq]
  exact body p e s m _ below meth c _ (fun q => s.heap.size ≤ q) ⟨B.exec, B.bytes, hml, findClass_of_methodNamed B.named, fun w hw => atoms_spec (ws := wG y b n (some rt)) B.pre w (List.mem_cons_of_mem _ hw), B.returns, B.notSynchronized⟩ hK (fun _ h => h) (fun H locs pc ls hn hP hS hd => W.zret B.exec B.bytes B.returns hn (fun t ht hW => ⟨⟨r, (), rfl, rfl, trivial⟩, hS.F ht⟩) hS.2.2 hd B.notSynchronized) s.heap [] _ hl hP va_S.rf
theorem PureL.of {r : Int64} (hy : plainName y.cls = true) (hlen : (lg_sl av).length ≤ n)
    (body : ∀ (p : Program) (e : Env) (s : State) (m : MethodId) (args : Array Value) (below : List Frame) (meth : Method) (c : Code) (Q : State → Prop) (A : Nat → Prop), Cx p s m args meth c b n y.cls (some .long) → KK E A s s.heap → (∀ q, s.heap.size ≤ q → A q) → RetL p l e (RM L) s m args below meth c Q E A b ws r →
      ∀ (H : Heap) (locs : List Loc) (ls : Array Slot), lv_has ls n (lv_args 0 av) → va_P E.1 classes ws H → va_S A s.heap H locs → W p l e (RM L) s m args below meth c H locs 0 0 Q (F0 m 0 ls [])) : PureL l E L y b n av ws r := by
  intro sz
  refine Met.ofW (cc := b) (maxL := n) (ret := some .long) hy rfl ?_
  intro p e s m args below meth c s₁ B hml hv
  obtain ⟨rfl, hsz, hP, hK⟩ := hv
  subst hsz
  have hl := lv_entry av hlen
  rw [lg_entry_eq]
  exact body p e s m _ below meth c _ (fun q => s.heap.size ≤ q) ⟨B.exec, B.bytes, hml, findClass_of_methodNamed B.named, fun w hw => atoms_spec (ws := wG y b n (some .long)) B.pre w (List.mem_cons_of_mem _ hw), B.returns, B.notSynchronized⟩ hK (fun _ h => h) (fun H locs pc ls hP hS hd => W.lret B.exec B.bytes B.returns (fun t ht hW => ⟨⟨r, (), rfl, rfl, trivial⟩, hS.F ht⟩) hS.2.2 hd B.notSynchronized) s.heap [] _ hl hP va_S.rf
theorem PureR.of {r : Nat} {C : String} (hy : plainName y.cls = true) (hlen : (lg_sl av).length ≤ n)
    (body : ∀ (p : Program) (e : Env) (s : State) (m : MethodId) (args : Array Value) (below : List Frame) (meth : Method) (c : Code) (Q : State → Prop) (A : Nat → Prop), Cx p s m args meth c b n y.cls (some (.object C)) → KK E A s s.heap → (∀ q, s.heap.size ≤ q → A q) → RetR p l e (RM L) s m args below meth c Q E A b ws r →
      ∀ (H : Heap) (locs : List Loc) (ls : Array Slot), lv_has ls n (lv_args 0 av) → va_P E.1 classes ws H → va_S A s.heap H locs → W p l e (RM L) s m args below meth c H locs 0 0 Q (F0 m 0 ls [])) : PureR l E L y b n (.object C) av ws r := by
  intro sz
  refine Met.ofW (cc := b) (maxL := n) (ret := some (.object C)) hy rfl ?_
  intro p e s m args below meth c s₁ B hml hv
  obtain ⟨rfl, hsz, hP, hK⟩ := hv
  subst hsz
  have hl := lv_entry av hlen
  rw [lg_entry_eq]
  exact body p e s m _ below meth c _ (fun q => s.heap.size ≤ q) ⟨B.exec, B.bytes, hml, findClass_of_methodNamed B.named, fun w hw => atoms_spec (ws := wG y b n (some (.object C))) B.pre w (List.mem_cons_of_mem _ hw), B.returns, B.notSynchronized⟩ hK (fun _ h => h) (fun H locs pc ls hP hS hd => W.aret B.exec B.bytes B.returns (Or.inl ⟨C, rfl⟩) (Or.inr ⟨r, rfl⟩) (fun t ht hW => ⟨⟨(), r, rfl, trivial, rfl⟩, hS.F ht⟩) hS.2.2 hd B.notSynchronized) s.heap [] _ hl hP va_S.rf
theorem MutI.of {r : Int32} (hy : plainName y.cls = true) (hlen : (lg_sl av).length ≤ n)
    (body : ∀ (p : Program) (e : Env) (s : State) (m : MethodId) (args : Array Value) (below : List Frame) (meth : Method) (c : Code) (Q : State → Prop) (A : Nat → Prop), Cx p s m args meth c b n y.cls (some rt) → KK E A s s.heap → (∀ q, s.heap.size ≤ q → A q) → RetI p l e (RM L) s m args below meth c Q E A b rt ws' r →
      ∀ (H : Heap) (locs : List Loc) (ls : Array Slot), lv_has ls n (lv_args 0 av) → va_P E.1 classes ws H → va_D A ws → va_S A s.heap H locs → W p l e (RM L) s m args below meth c H locs 0 0 Q (F0 m 0 ls [])) : MutI l E L y b n rt av ws ws' r := by
  intro sz
  refine Met.ofW (cc := b) (maxL := n) (ret := some rt) hy rfl ?_
  intro p e s m args below meth c s₁ B hml hv
  obtain ⟨rfl, hsz, hP, hK, hD⟩ := hv
  subst hsz
  have hl := lv_entry av hlen
  rw [lg_entry_eq]
  exact body p e s m _ below meth c _ (va_A ws s.heap.size) ⟨B.exec, B.bytes, hml, findClass_of_methodNamed B.named, fun w hw => atoms_spec (ws := wG y b n (some rt)) B.pre w (List.mem_cons_of_mem _ hw), B.returns, B.notSynchronized⟩ hK (fun _ h => Or.inr h) (fun H locs pc ls hn hP hS hd => W.zret B.exec B.bytes B.returns hn (fun t ht hW => ⟨⟨r, (), rfl, rfl, P_at ht hP⟩, hS.F ht⟩) hS.2.2 hd B.notSynchronized) s.heap [] _ hl hP hD.self va_S.rf
theorem MutV.of (hy : plainName y.cls = true) (hlen : (lg_sl av).length ≤ n)
    (body : ∀ (p : Program) (e : Env) (s : State) (m : MethodId) (args : Array Value) (below : List Frame) (meth : Method) (c : Code) (Q : State → Prop) (A : Nat → Prop), Cx p s m args meth c b n y.cls none → KK E A s s.heap → (∀ q, s.heap.size ≤ q → A q) → RetV p l e (RM L) s m args below meth c Q E A b ws' →
      ∀ (H : Heap) (locs : List Loc) (ls : Array Slot), lv_has ls n (lv_args 0 av) → va_P E.1 classes ws H → va_D A ws → va_S A s.heap H locs → W p l e (RM L) s m args below meth c H locs 0 0 Q (F0 m 0 ls [])) : MutV l E L y b n av ws ws' := by
  intro sz
  refine Met.ofW (cc := b) (maxL := n) (ret := none) hy rfl ?_
  intro p e s m args below meth c s₁ B hml hv
  obtain ⟨rfl, hsz, hP, hK, hD⟩ := hv
  subst hsz
  have hl := lv_entry av hlen
  rw [lg_entry_eq]
  exact body p e s m _ below meth c _ (va_A ws s.heap.size) ⟨B.exec, B.bytes, hml, findClass_of_methodNamed B.named, fun w hw => atoms_spec (ws := wG y b n none) B.pre w (List.mem_cons_of_mem _ hw), B.returns, B.notSynchronized⟩ hK (fun _ h => Or.inr h) (fun H locs pc ls hP hS hd => W.vret B.exec B.bytes B.returns (fun t ht hW => ⟨⟨(), rfl, trivial, P_at ht hP⟩, hS.F ht⟩) hS.2.2 hd B.notSynchronized) s.heap [] _ hl hP hD.self va_S.rf
end OF
/-! ## links -/
def lkV (own : String) (idx : Nat) (y : MethodName) (b : ByteArray) (n : Nat) (rt : Option FieldType) (k : Nat) : Prop :=
  Cond.methodLink own idx y ∈ GG ∧ Cond.instanceMethod y ∈ GG ∧ Cond.selects y.cls y y ∈ GG ∧ Cond.initialized y.cls ∈ GG ∧ Cond.code y b n rt ∈ GG ∧ y.cls ≠ "java/lang/invoke/MethodHandle" ∧ y.cls ≠ "java/lang/invoke/VarHandle" ∧ (parseMethodDescriptor y.desc).map (fun d => d.parameters.length) = some k
def lkS (own : String) (idx : Nat) (y : MethodName) (b : ByteArray) (n : Nat) (rt : Option FieldType) (k : Nat) : Prop :=
  Cond.methodLink own idx y ∈ GG ∧ Cond.static y ∈ GG ∧ Cond.initialized y.cls ∈ GG ∧ Cond.code y b n rt ∈ GG ∧ y.cls ≠ "java/lang/invoke/MethodHandle" ∧ y.cls ≠ "java/lang/invoke/VarHandle" ∧ (parseMethodDescriptor y.desc).map (fun d => d.parameters.length) = some k
theorem GG_of {ws : List Cond} (h : ∀ w ∈ ws, w ∈ GG) : GoodIn GG ws := fun w hw => ⟨h w hw, good_of_word (GG_good (h w hw))⟩
theorem lkV.good {own : String} {idx : Nat} {y : MethodName} {b : ByteArray} {n : Nat} {rt : Option FieldType} {k : Nat} (h : lkV own idx y b n rt k) : GoodIn GG (wsV own idx y.cls y (wG y b n rt)) := GG_of (by
  intro w hw
  simp only [wsV, wG, List.mem_append, List.mem_cons, List.not_mem_nil, or_false] at hw
  rcases hw with (rfl | rfl | rfl | rfl) | rfl | hw
  · exact h.1
  · exact h.2.1
  · exact h.2.2.1
  · exact h.2.2.2.1
  · exact h.2.2.2.2.1
  · exact hw)
theorem lkS.good {own : String} {idx : Nat} {y : MethodName} {b : ByteArray} {n : Nat} {rt : Option FieldType} {k : Nat} (h : lkS own idx y b n rt k) : GoodIn GG (va_wsS own idx y (wG y b n rt)) := GG_of (by
  intro w hw
  simp only [va_wsS, wG, List.mem_append, List.mem_cons, List.not_mem_nil, or_false] at hw
  rcases hw with (rfl | rfl | rfl) | rfl | hw
  · exact h.1
  · exact h.2.1
  · exact h.2.2.1
  · exact h.2.2.2.1
  · exact hw)
/-! ## the cells that a call gave back stand in their places -/
def setAll : va_W → List Nat → va_W → va_W
  | ws, i :: is, x :: xs => setAll (ws.set i x) is xs
  | ws, _, _ => ws
theorem setAll_length : ∀ (is : List Nat) (ws xs : va_W), (setAll ws is xs).length = ws.length
  | [], ws, xs => by simp [setAll]
  | i :: is, ws, [] => by simp [setAll]
  | i :: is, ws, x :: xs => by simp [setAll, setAll_length is]
theorem setAll_out : ∀ (is : List Nat) (ws xs : va_W) (k : Nat), k ∉ is → (setAll ws is xs)[k]? = ws[k]?
  | [], ws, xs, k, _ => by simp [setAll]
  | i :: is, ws, [], k, _ => by simp [setAll]
  | i :: is, ws, x :: xs, k, h => by
    simp only [List.mem_cons, not_or] at h
    rw [setAll, setAll_out is _ xs k h.2, List.getElem?_set_ne (fun e => h.1 e.symm)]
theorem setAll_in : ∀ (is : List Nat) (ws xs : va_W) (j k : Nat) (q : Nat × va_E), va_nd is = true → is[j]? = some k → xs[j]? = some q → k < ws.length → (setAll ws is xs)[k]? = some q
  | [], ws, xs, j, k, q, _, h, _, _ => by simp at h
  | i :: is, ws, [], j, k, q, _, _, h, _ => by simp at h
  | i :: is, ws, x :: xs, 0, k, q, hn, h1, h2, hk => by
    simp only [va_nd, Bool.and_eq_true, decide_eq_true_eq] at hn
    simp at h1 h2
    subst h1; subst h2
    rw [setAll, setAll_out is _ xs i hn.1, List.getElem?_set_self hk]
  | i :: is, ws, x :: xs, j + 1, k, q, hn, h1, h2, hk => by
    simp only [va_nd, Bool.and_eq_true, decide_eq_true_eq] at hn
    rw [List.getElem?_cons_succ] at h1 h2
    rw [setAll]
    exact setAll_in is _ xs j k q hn.2 h1 h2 (by simpa using hk)
theorem at_map {is : List Nat} {ws w : va_W} (hs : is.map (fun i => ws[i]?) = w.map some) {k : Nat} {q : Nat × va_E} (hk : w[k]? = some q) : ∃ i : Nat, is[k]? = some i ∧ ws[i]? = some q := by
  have h1 : (is.map (fun i => ws[i]?))[k]? = some (some q) := by rw [hs, List.getElem?_map, hk]; rfl
  rw [List.getElem?_map] at h1
  cases hi : is[k]? with
  | none => rw [hi] at h1; cases h1
  | some i => rw [hi] at h1; exact ⟨i, rfl, Option.some.inj h1⟩
theorem at_map' {is : List Nat} {ws w : va_W} (hs : is.map (fun i => ws[i]?) = w.map some) {k i : Nat} (hk : is[k]? = some i) : ∃ q : Nat × va_E, w[k]? = some q ∧ ws[i]? = some q := by
  have h1 : (is.map (fun i => ws[i]?))[k]? = some (ws[i]?) := by rw [List.getElem?_map, hk]; rfl
  rw [hs, List.getElem?_map] at h1
  cases hi : w[k]? with
  | none => rw [hi] at h1; cases h1
  | some q => rw [hi] at h1; exact ⟨q, rfl, (Option.some.inj h1).symm⟩
/-- where each cell of the changed world comes from -/
theorem setAll_from {is : List Nat} {ws wc wc' : va_W} (hC : is.map (fun i => ws[i]?) = wc.map some) (hn : va_nd is = true) (ha : wc'.map Prod.fst = wc.map Prod.fst) {k : Nat} {q : Nat × va_E} (h : (setAll ws is wc')[k]? = some q) : (k ∉ is ∧ ws[k]? = some q) ∨ (∃ j : Nat, is[j]? = some k ∧ wc'[j]? = some q ∧ ∃ q0 : Nat × va_E, wc[j]? = some q0 ∧ ws[k]? = some q0 ∧ q0.1 = q.1) := by
  by_cases hk : k ∈ is
  · obtain ⟨j, hj⟩ := List.getElem?_of_mem hk
    obtain ⟨q0, h1, h2⟩ := at_map' hC hj
    have hl : k < ws.length := (List.getElem?_eq_some_iff.mp h2).1
    have e : (wc'.map Prod.fst)[j]? = (wc.map Prod.fst)[j]? := by rw [ha]
    rw [List.getElem?_map, List.getElem?_map, h1] at e
    cases hq : wc'[j]? with
    | none => rw [hq] at e; cases e
    | some q1 =>
      rw [hq] at e
      have e1 : q1.1 = q0.1 := Option.some.inj e
      rw [setAll_in is ws wc' j k q1 hn hj hq hl] at h
      cases h
      exact Or.inr ⟨j, hj, hq, q0, h1, h2, e1.symm⟩
  · rw [setAll_out is ws wc' k hk] at h
    exact Or.inl ⟨hk, h⟩
theorem setAll_D {A : Nat → Prop} {is : List Nat} {ws wc wc' : va_W} (hD : va_D A ws) (hC : is.map (fun i => ws[i]?) = wc.map some) (hn : va_nd is = true) (ha : wc'.map Prod.fst = wc.map Prod.fst) : va_D A (setAll ws is wc') := by
  have key : ∀ (k : Nat) (q : Nat × va_E), (setAll ws is wc')[k]? = some q → ∃ q0, ws[k]? = some q0 ∧ q0.1 = q.1 := by
    intro k q h
    rcases setAll_from hC hn ha h with ⟨-, h⟩ | ⟨j, -, -, q0, -, h, e⟩
    · exact ⟨q, h, rfl⟩
    · exact ⟨q0, h, e⟩
  refine ⟨fun i j x y hi hj hxy => ?_, fun k q hk => ?_⟩
  · obtain ⟨x0, h1, h2⟩ := key i x hi
    obtain ⟨y0, h3, h4⟩ := key j y hj
    exact hD.1 i j x0 y0 h1 h3 (h2.trans (hxy.trans h4.symm))
  · obtain ⟨q0, h1, h2⟩ := key k q hk
    rw [← h2]
    exact hD.2 k q0 h1
theorem setAll_P {A : Nat → Prop} {D : va_G} {is : List Nat} {ws wc wc' : va_W} {H H1 : Heap} (hP : va_P D classes ws H) (hD : va_D A ws) (hC : is.map (fun i => ws[i]?) = wc.map some) (hn : va_nd is = true) (ha : wc'.map Prod.fst = wc.map Prod.fst) (hP1 : va_P D classes wc' H1) (hk : ∀ q : Nat, q < H.size → ¬ va_A wc H.size q → H1[q]? = H[q]?) : va_P D classes (setAll ws is wc') H1 := by
  intro k q h
  rcases setAll_from hC hn ha h with ⟨hni, h⟩ | ⟨j, -, hq, -⟩
  · have hl := (hP k q h).lt
    refine (hP k q h).kept (hk q.1 hl ?_)
    rintro (⟨k2, e, h2⟩ | h2)
    · obtain ⟨i, h3, h4⟩ := at_map hC h2
      have := hD.1 k i q (q.1, e) h h4 rfl
      subst this
      exact hni (List.mem_of_getElem? h3)
    · omega
  · exact hP1 j q hq

/-! ## calls, a row each -/
section CALLS
variable {p : Program} {l : Launch} {e : Env} {R : Room} {s : State} {m : MethodId} {args : Array Value} {below : List Frame} {meth : Method} {c : Code} {H : Heap} {locs : List Loc} {cells slots : Nat} {Q : State → Prop}
variable {cc : ByteArray} {nL pc : Nat} {ls : Array Slot} {rest st0 : List Value} {A : Nat → Prop} {E : Ev} {own : String} {rt0 : Option FieldType} {ws wc wc' : va_W} {L n k idx a ci : Nat} {y : MethodName} {b : ByteArray} {rt : FieldType} {As : List Value} {fs : List Value} {C : vw_C}
theorem kept_all (hP : va_P E.1 classes ws H) {H1 : Heap} (hk : ∀ q : Nat, q < H.size → ¬ (fun q : Nat => H.size ≤ q) q → H1[q]? = H[q]?) : va_P E.1 classes ws H1 :=
  hP.kept (fun k q hq => hk q.1 (hP k q hq).lt (fun h => absurd (hP k q hq).lt (Nat.not_lt.mpr h)))
theorem pV {r : Int32} (X : Cx p s m args meth c cc nL own rt0) (hK : KK E A s s.heap) (hA : ∀ q, s.heap.size ≤ q → A q) (hP : va_P E.1 classes ws H) (hS : va_S A s.heap H locs) (hl : ls.size = nL)
    (hM : PureI l E L y b n rt (.ref a :: As) wc r) (lk : lkV own idx y b n (some rt) k) (is : List Nat) (hsub : is.filterMap (fun i => ws[i]?) = wc) (hr : wc[0]? = some (a, .inr (ci, fs))) (hcl : classes[ci]? = some C) (hC : C.1 = y.cls)
    (hR : (L + 1 ≤ R.frames ∧ 8 + (n + 11) + 64 * L ≤ R.locals) ∧ cells ≤ R.cells ∧ slots ≤ R.slots) (hlen : As.length = k) (hst : st0 = As.reverse ++ .ref a :: rest) (hrm : (rest.map fun v => v.category).sum ≤ 8) (hdg : decode cc pc = .ok (.invokevirtual idx, 3))
    (kk : ∀ (H1 : Heap) (locs1 : List Loc), va_P E.1 classes ws H1 → va_S A s.heap H1 locs1 → W p l e R s m args below meth c H1 locs1 cells slots Q (F0 m (pc + 3) ls (.int r :: rest))) : W p l e R s m args below meth c H locs cells slots Q (F0 m pc ls st0) := by
  obtain ⟨hx, hb, hml, ho, hts, -, -⟩ := X
  have hPc : va_P E.1 classes wc H := hP.sub is hsub
  have hA1 : ∀ q : Nat, H.size ≤ q → A q := fun q h => hA q (Nat.le_trans hS.1 h)
  refine va_calli (va_runV (As := As) (rest := rest) ⟨hx, hb, hml, ho, hts⟩ (hM H.size) (cwV k hts lk.good rfl rfl rfl ⟨rfl, lk.2.2.2.2.2⟩ hR.1) ⟨fun a U g mk q => ⟨q.1, q.2.1, q.2.2.1, q.2.2.2.calling⟩, ?_, fun U hU hW => ⟨rfl, by rw [hU], by rw [hU]; exact hPc, hK.pass hS hA1 hU hW⟩⟩ rfl hlen hl hst (lv_room hrm) hdg hR.2) hS (fun q _ h => hA1 q h) hA1 (fun r' u t H1 locs1 ht hvm hw hB hz hk hS1 => ?_)
  · rw [← hC]; exact va_recv hK.1 hPc hcl hr
  · cases hw
    exact kk H1 locs1 (kept_all hP hk) hS1
theorem pVL {r : Int64} (X : Cx p s m args meth c cc nL own rt0) (hK : KK E A s s.heap) (hA : ∀ q, s.heap.size ≤ q → A q) (hP : va_P E.1 classes ws H) (hS : va_S A s.heap H locs) (hl : ls.size = nL)
    (hM : PureL l E L y b n (.ref a :: As) wc r) (lk : lkV own idx y b n (some .long) k) (is : List Nat) (hsub : is.filterMap (fun i => ws[i]?) = wc) (hr : wc[0]? = some (a, .inr (ci, fs))) (hcl : classes[ci]? = some C) (hC : C.1 = y.cls)
    (hR : (L + 1 ≤ R.frames ∧ 8 + (n + 11) + 64 * L ≤ R.locals) ∧ cells ≤ R.cells ∧ slots ≤ R.slots) (hlen : As.length = k) (hst : st0 = As.reverse ++ .ref a :: rest) (hrm : (rest.map fun v => v.category).sum ≤ 8) (hdg : decode cc pc = .ok (.invokevirtual idx, 3))
    (kk : ∀ (H1 : Heap) (locs1 : List Loc), va_P E.1 classes ws H1 → va_S A s.heap H1 locs1 → W p l e R s m args below meth c H1 locs1 cells slots Q (F0 m (pc + 3) ls (.long r :: rest))) : W p l e R s m args below meth c H locs cells slots Q (F0 m pc ls st0) := by
  obtain ⟨hx, hb, hml, ho, hts, -, -⟩ := X
  have hPc : va_P E.1 classes wc H := hP.sub is hsub
  have hA1 : ∀ q : Nat, H.size ≤ q → A q := fun q h => hA q (Nat.le_trans hS.1 h)
  refine va_calll (va_runV (As := As) (rest := rest) ⟨hx, hb, hml, ho, hts⟩ (hM H.size) (cwV k hts lk.good rfl rfl rfl ⟨rfl, lk.2.2.2.2.2⟩ hR.1) ⟨fun a U g mk q => ⟨q.1, q.2.1, q.2.2.1, q.2.2.2.calling⟩, ?_, fun U hU hW => ⟨rfl, by rw [hU], by rw [hU]; exact hPc, hK.pass hS hA1 hU hW⟩⟩ rfl hlen hl hst (lv_room hrm) hdg hR.2) hS (fun q _ h => hA1 q h) hA1 (fun r' u t H1 locs1 ht hvm hw hB hz hk hS1 => ?_)
  · rw [← hC]; exact va_recv hK.1 hPc hcl hr
  · cases hw
    exact kk H1 locs1 (kept_all hP hk) hS1
theorem pVR {r : Nat} (X : Cx p s m args meth c cc nL own rt0) (hK : KK E A s s.heap) (hA : ∀ q, s.heap.size ≤ q → A q) (hP : va_P E.1 classes ws H) (hS : va_S A s.heap H locs) (hl : ls.size = nL)
    (hM : PureR l E L y b n rt (.ref a :: As) wc r) (lk : lkV own idx y b n (some rt) k) (is : List Nat) (hsub : is.filterMap (fun i => ws[i]?) = wc) (hr : wc[0]? = some (a, .inr (ci, fs))) (hcl : classes[ci]? = some C) (hC : C.1 = y.cls)
    (hR : (L + 1 ≤ R.frames ∧ 8 + (n + 11) + 64 * L ≤ R.locals) ∧ cells ≤ R.cells ∧ slots ≤ R.slots) (hlen : As.length = k) (hst : st0 = As.reverse ++ .ref a :: rest) (hrm : (rest.map fun v => v.category).sum ≤ 8) (hdg : decode cc pc = .ok (.invokevirtual idx, 3))
    (kk : ∀ (H1 : Heap) (locs1 : List Loc), va_P E.1 classes ws H1 → va_S A s.heap H1 locs1 → W p l e R s m args below meth c H1 locs1 cells slots Q (F0 m (pc + 3) ls (.ref r :: rest))) : W p l e R s m args below meth c H locs cells slots Q (F0 m pc ls st0) := by
  obtain ⟨hx, hb, hml, ho, hts, -, -⟩ := X
  have hPc : va_P E.1 classes wc H := hP.sub is hsub
  have hA1 : ∀ q : Nat, H.size ≤ q → A q := fun q h => hA q (Nat.le_trans hS.1 h)
  refine va_callr (va_runV (As := As) (rest := rest) ⟨hx, hb, hml, ho, hts⟩ (hM H.size) (cwV k hts lk.good rfl rfl rfl ⟨rfl, lk.2.2.2.2.2⟩ hR.1) ⟨fun a U g mk q => ⟨q.1, q.2.1, q.2.2.1, q.2.2.2.calling⟩, ?_, fun U hU hW => ⟨rfl, by rw [hU], by rw [hU]; exact hPc, hK.pass hS hA1 hU hW⟩⟩ rfl hlen hl hst (lv_room hrm) hdg hR.2) hS (fun q _ h => hA1 q h) hA1 (fun u ra t H1 locs1 ht hvm hw hB hz hk hS1 => ?_)
  · rw [← hC]; exact va_recv hK.1 hPc hcl hr
  · cases hB
    exact kk H1 locs1 (kept_all hP hk) hS1
theorem pS {r : Int32} (X : Cx p s m args meth c cc nL own rt0) (hK : KK E A s s.heap) (hA : ∀ q, s.heap.size ≤ q → A q) (hP : va_P E.1 classes ws H) (hS : va_S A s.heap H locs) (hl : ls.size = nL)
    (hM : PureI l E L y b n rt As [] r) (lk : lkS own idx y b n (some rt) k)
    (hR : (L + 1 ≤ R.frames ∧ 8 + (n + 11) + 64 * L ≤ R.locals) ∧ cells ≤ R.cells ∧ slots ≤ R.slots) (hlen : As.length = k) (hst : st0 = As.reverse ++ rest) (hrm : (rest.map fun v => v.category).sum ≤ 8) (hdg : decode cc pc = .ok (.invokestatic idx, 3))
    (kk : ∀ (H1 : Heap) (locs1 : List Loc), va_P E.1 classes ws H1 → va_S A s.heap H1 locs1 → W p l e R s m args below meth c H1 locs1 cells slots Q (F0 m (pc + 3) ls (.int r :: rest))) : W p l e R s m args below meth c H locs cells slots Q (F0 m pc ls st0) := by
  obtain ⟨hx, hb, hml, ho, hts, -, -⟩ := X
  have hA1 : ∀ q : Nat, H.size ≤ q → A q := fun q h => hA q (Nat.le_trans hS.1 h)
  refine va_calli (va_runS (As := As) (rest := rest) ⟨hx, hb, hml, ho, hts⟩ (hM H.size) (va_cwS k hts lk.good rfl rfl rfl lk.2.2.2.2 hR.1) ⟨fun a U g mk q => ⟨q.1, q.2.1, q.2.2.1, q.2.2.2.calling⟩, fun U hU hW => ⟨rfl, by rw [hU], fun k q h => by simp at h, hK.pass hS hA1 hU hW⟩⟩ rfl hlen hl hst (lv_room hrm) hdg hR.2) hS (fun q _ h => hA1 q h) hA1 (fun r' u t H1 locs1 ht hvm hw hB hz hk hS1 => ?_)
  cases hw
  exact kk H1 locs1 (kept_all hP hk) hS1
theorem pSN {r : Int32} (X : Cx p s m args meth c cc nL own rt0) (hK : KK E A s s.heap) (hA : ∀ q, s.heap.size ≤ q → A q) (hP : va_P E.1 classes ws H) (hS : va_S A s.heap H locs) (hl : ls.size = nL) {host : String}
    (hM : PureI l E L y b n rt As [] r) (hN : va_Nw (.methodLinkNest own idx y host) s) (lk : Cond.static y ∈ GG ∧ Cond.initialized y.cls ∈ GG ∧ Cond.code y b n (some rt) ∈ GG ∧ y.cls ≠ "java/lang/invoke/MethodHandle" ∧ y.cls ≠ "java/lang/invoke/VarHandle" ∧ (parseMethodDescriptor y.desc).map (fun d => d.parameters.length) = some k)
    (hR : (L + 1 ≤ R.frames ∧ 8 + (n + 11) + 64 * L ≤ R.locals) ∧ cells ≤ R.cells ∧ slots ≤ R.slots) (hlen : As.length = k) (hst : st0 = As.reverse ++ rest) (hrm : (rest.map fun v => v.category).sum ≤ 8) (hdg : decode cc pc = .ok (.invokestatic idx, 3))
    (kk : ∀ (H1 : Heap) (locs1 : List Loc), va_P E.1 classes ws H1 → va_S A s.heap H1 locs1 → W p l e R s m args below meth c H1 locs1 cells slots Q (F0 m (pc + 3) ls (.int r :: rest))) : W p l e R s m args below meth c H locs cells slots Q (F0 m pc ls st0) := by
  obtain ⟨hx, hb, hml, ho, hts, -, -⟩ := X
  have hA1 : ∀ q : Nat, H.size ≤ q → A q := fun q h => hA q (Nat.le_trans hS.1 h)
  have hG : GoodIn GG (wG y b n (some rt)) := GG_of (fun w hw => by
    rcases List.mem_cons.mp hw with rfl | hw
    · exact lk.2.2.1
    · exact hw)
  refine va_calli (va_runSN (As := As) (rest := rest) ⟨hx, hb, hml, ho, hts⟩ (hM H.size) ⟨va_cnB k hts hG rfl rfl rfl hN (hts _ lk.2.1) lk.2.2.2 hR.1, hts _ lk.1, trivial⟩ ⟨fun a U g mk q => ⟨q.1, q.2.1, q.2.2.1, q.2.2.2.calling⟩, fun U hU hW => ⟨rfl, by rw [hU], fun k q h => by simp at h, hK.pass hS hA1 hU hW⟩⟩ rfl hlen hl hst (lv_room hrm) hdg hR.2) hS (fun q _ h => hA1 q h) hA1 (fun r' u t H1 locs1 ht hvm hw hB hz hk hS1 => ?_)
  cases hw
  exact kk H1 locs1 (kept_all hP hk) hS1
theorem mV {r : Int32} (X : Cx p s m args meth c cc nL own rt0) (hK : KK E A s s.heap) (hA : ∀ q, s.heap.size ≤ q → A q) (hP : va_P E.1 classes ws H) (hD : va_D A ws) (hS : va_S A s.heap H locs) (hl : ls.size = nL)
    (hM : MutI l E L y b n rt (.ref a :: As) wc wc' r) (lk : lkV own idx y b n (some rt) k) (is : List Nat) (hnd : va_nd is = true) (hsub : is.map (fun i => ws[i]?) = wc.map some) (had : wc'.map Prod.fst = wc.map Prod.fst) (hr : wc[0]? = some (a, .inr (ci, fs))) (hcl : classes[ci]? = some C) (hC : C.1 = y.cls)
    (hR : (L + 1 ≤ R.frames ∧ 8 + (n + 11) + 64 * L ≤ R.locals) ∧ cells ≤ R.cells ∧ slots ≤ R.slots) (hlen : As.length = k) (hst : st0 = As.reverse ++ .ref a :: rest) (hrm : (rest.map fun v => v.category).sum ≤ 8) (hdg : decode cc pc = .ok (.invokevirtual idx, 3))
    (kk : ∀ (H1 : Heap) (locs1 : List Loc), va_P E.1 classes (setAll ws is wc') H1 → va_D A (setAll ws is wc') → va_S A s.heap H1 locs1 → W p l e R s m args below meth c H1 locs1 cells slots Q (F0 m (pc + 3) ls (.int r :: rest))) : W p l e R s m args below meth c H locs cells slots Q (F0 m pc ls st0) := by
  obtain ⟨hx, hb, hml, ho, hts, -, -⟩ := X
  have hPc : va_P E.1 classes wc H := fun k q hk => by obtain ⟨i, -, hi⟩ := at_map hsub hk; exact hP i q hi
  have hDc : va_D A wc := hD.sub is hnd hsub
  have hF := va_free (wc := wc) hD hS hA is hsub
  refine va_calli (va_runV (As := As) (rest := rest) ⟨hx, hb, hml, ho, hts⟩ (hM H.size) (cwV k hts lk.good rfl rfl rfl ⟨rfl, lk.2.2.2.2.2⟩ hR.1) ⟨fun a U g mk q => ⟨q.1, q.2.1, q.2.2.1, q.2.2.2.1.calling, q.2.2.2.2⟩, ?_, fun U hU hW => ⟨rfl, by rw [hU], by rw [hU]; exact hPc, hK.pass hS hF hU hW, hDc.weaken (fun _ _ _ _ => trivial)⟩⟩ rfl hlen hl hst (lv_room hrm) hdg hR.2) hS (fun q _ h => hF q h) hF (fun r' u t H1 locs1 ht hvm hw hB hz hk hS1 => ?_)
  · rw [← hC]; exact va_recv hK.1 hPc hcl hr
  · cases hw
    subst ht
    exact kk t.heap locs1 (setAll_P hP hD hsub hnd had hB hk) (setAll_D hD hsub hnd had) hS1
theorem mVv (X : Cx p s m args meth c cc nL own rt0) (hK : KK E A s s.heap) (hA : ∀ q, s.heap.size ≤ q → A q) (hP : va_P E.1 classes ws H) (hD : va_D A ws) (hS : va_S A s.heap H locs) (hl : ls.size = nL)
    (hM : MutV l E L y b n (.ref a :: As) wc wc') (lk : lkV own idx y b n none k) (is : List Nat) (hnd : va_nd is = true) (hsub : is.map (fun i => ws[i]?) = wc.map some) (had : wc'.map Prod.fst = wc.map Prod.fst) (hr : wc[0]? = some (a, .inr (ci, fs))) (hcl : classes[ci]? = some C) (hC : C.1 = y.cls)
    (hR : (L + 1 ≤ R.frames ∧ 8 + (n + 11) + 64 * L ≤ R.locals) ∧ cells ≤ R.cells ∧ slots ≤ R.slots) (hlen : As.length = k) (hst : st0 = As.reverse ++ .ref a :: rest) (hrm : (rest.map fun v => v.category).sum ≤ 8) (hdg : decode cc pc = .ok (.invokevirtual idx, 3))
    (kk : ∀ (H1 : Heap) (locs1 : List Loc), va_P E.1 classes (setAll ws is wc') H1 → va_D A (setAll ws is wc') → va_S A s.heap H1 locs1 → W p l e R s m args below meth c H1 locs1 cells slots Q (F0 m (pc + 3) ls rest)) : W p l e R s m args below meth c H locs cells slots Q (F0 m pc ls st0) := by
  obtain ⟨hx, hb, hml, ho, hts, -, -⟩ := X
  have hPc : va_P E.1 classes wc H := fun k q hk => by obtain ⟨i, -, hi⟩ := at_map hsub hk; exact hP i q hi
  have hDc : va_D A wc := hD.sub is hnd hsub
  have hF := va_free (wc := wc) hD hS hA is hsub
  refine va_callv (va_runV (As := As) (rest := rest) ⟨hx, hb, hml, ho, hts⟩ (hM H.size) (cwV k hts lk.good rfl rfl rfl ⟨rfl, lk.2.2.2.2.2⟩ hR.1) ⟨fun a U g mk q => ⟨q.1, q.2.1, q.2.2.1, q.2.2.2.1.calling, q.2.2.2.2⟩, ?_, fun U hU hW => ⟨rfl, by rw [hU], by rw [hU]; exact hPc, hK.pass hS hF hU hW, hDc.weaken (fun _ _ _ _ => trivial)⟩⟩ rfl hlen hl hst (lv_room hrm) hdg hR.2) hS (fun q _ h => hF q h) hF (fun u t H1 locs1 ht hvm hw hB hz hk hS1 => ?_)
  · rw [← hC]; exact va_recv hK.1 hPc hcl hr
  · subst ht
    exact kk t.heap locs1 (setAll_P hP hD hsub hnd had hB hk) (setAll_D hD hsub hnd had) hS1
end CALLS
/-! ## what an answer of a function in Option says -/
theorem og {α : Type} {c : Prop} {d : Decidable c} {a : Option α} {r : α} (h : (@ite _ c d a none) = some r) : c ∧ a = some r := by
  by_cases hc : c
  · rw [if_pos hc] at h; exact ⟨hc, h⟩
  · rw [if_neg hc] at h; cases h
theorem ot {α : Type} {c : Prop} {d : Decidable c} {a b : Option α} {r : α} (hc : c) (h : (@ite _ c d a b) = some r) : a = some r := by rw [if_pos hc] at h; exact h
theorem of {α : Type} {c : Prop} {d : Decidable c} {a b : Option α} {r : α} (hc : ¬ c) (h : (@ite _ c d a b) = some r) : b = some r := by rw [if_neg hc] at h; exact h
theorem ob {α β : Type} {o : Option α} {K : α → Option β} {r : β} (h : o.bind K = some r) : ∃ u, o = some u ∧ K u = some r := by
  cases o with
  | none => cases h
  | some u => exact ⟨u, rfl, h⟩
abbrev nz (r : Int32) : Prop := r = 0 ∨ r = 1
theorem nz_nar {r : Int32} (h : nz r) : narrow .boolean (.int r) = .int r := by
  rcases h with rfl | rfl <;> decide
/-- a loop's fuel -/
def FU : Nat := 1000
end
