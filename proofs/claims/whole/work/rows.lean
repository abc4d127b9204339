section
-- ===== PART A: goes FIRST, ahead of the names: the tables' words, and 'selects' of the private methods out of them =====
/-- a private method of a class that the tables say can be made, by its rows of tables_1 -/
def lw_okq (q : MethodName × Nat) : Prop := (q.1.cls ≠ "java/lang/invoke/MethodHandle" ∧ q.1.cls ≠ "java/lang/invoke/VarHandle") ∧ Cond.instantiable q.1.cls q.2 ∈ tables_1 ∧ Cond.privateMethod q.1 ∈ tables_1 ∧ Cond.instanceMethod q.1 ∈ tables_1
theorem lw_p0 : lw_okq (⟨"TopStreet", "found", "(I)I"⟩, 10) := ⟨⟨by decide +kernel, by decide +kernel⟩, List.mem_of_getElem? (i := 19) (by decide +kernel), List.mem_of_getElem? (i := 272) (by decide +kernel), List.mem_of_getElem? (i := 273) (by decide +kernel)⟩
theorem lw_p1 : lw_okq (⟨"TopStreet", "fine", "(I)I"⟩, 10) := ⟨⟨by decide +kernel, by decide +kernel⟩, List.mem_of_getElem? (i := 19) (by decide +kernel), List.mem_of_getElem? (i := 281) (by decide +kernel), List.mem_of_getElem? (i := 282) (by decide +kernel)⟩
theorem lw_p2 : lw_okq (⟨"TopStreet$Tape", "readSign", "(I)V"⟩, 5) := ⟨⟨by decide +kernel, by decide +kernel⟩, List.mem_of_getElem? (i := 29) (by decide +kernel), List.mem_of_getElem? (i := 328) (by decide +kernel), List.mem_of_getElem? (i := 329) (by decide +kernel)⟩
theorem lw_p3 : lw_okq (⟨"TopStreet$Tape", "step", "(Z)V"⟩, 5) := ⟨⟨by decide +kernel, by decide +kernel⟩, List.mem_of_getElem? (i := 29) (by decide +kernel), List.mem_of_getElem? (i := 332) (by decide +kernel), List.mem_of_getElem? (i := 333) (by decide +kernel)⟩
theorem lw_p4 : lw_okq (⟨"TopStreet$Tape", "readNumber", "(II)I"⟩, 5) := ⟨⟨by decide +kernel, by decide +kernel⟩, List.mem_of_getElem? (i := 29) (by decide +kernel), List.mem_of_getElem? (i := 336) (by decide +kernel), List.mem_of_getElem? (i := 337) (by decide +kernel)⟩
theorem lw_p5 : lw_okq (⟨"TopStreet$Tape", "readHouse", "()V"⟩, 5) := ⟨⟨by decide +kernel, by decide +kernel⟩, List.mem_of_getElem? (i := 29) (by decide +kernel), List.mem_of_getElem? (i := 341) (by decide +kernel), List.mem_of_getElem? (i := 342) (by decide +kernel)⟩
theorem lw_p6 : lw_okq (⟨"TopStreet$Tape", "readSort", "()I"⟩, 5) := ⟨⟨by decide +kernel, by decide +kernel⟩, List.mem_of_getElem? (i := 29) (by decide +kernel), List.mem_of_getElem? (i := 345) (by decide +kernel), List.mem_of_getElem? (i := 346) (by decide +kernel)⟩
theorem lw_p7 : lw_okq (⟨"TopStreet", "noStreet", "()Z"⟩, 10) := ⟨⟨by decide +kernel, by decide +kernel⟩, List.mem_of_getElem? (i := 19) (by decide +kernel), List.mem_of_getElem? (i := 469) (by decide +kernel), List.mem_of_getElem? (i := 470) (by decide +kernel)⟩
theorem lw_p8 : lw_okq (⟨"TopStreet", "isHouse", "(I)Z"⟩, 10) := ⟨⟨by decide +kernel, by decide +kernel⟩, List.mem_of_getElem? (i := 19) (by decide +kernel), List.mem_of_getElem? (i := 503) (by decide +kernel), List.mem_of_getElem? (i := 504) (by decide +kernel)⟩
theorem lw_p9 : lw_okq (⟨"TopStreet$Round", "weigh", "(LTopStreet$Street;)V"⟩, 5) := ⟨⟨by decide +kernel, by decide +kernel⟩, List.mem_of_getElem? (i := 154) (by decide +kernel), List.mem_of_getElem? (i := 589) (by decide +kernel), List.mem_of_getElem? (i := 590) (by decide +kernel)⟩
theorem lw_p10 : lw_okq (⟨"TopStreet$Foretold", "standingAfter", "(I)I"⟩, 4) := ⟨⟨by decide +kernel, by decide +kernel⟩, List.mem_of_getElem? (i := 132) (by decide +kernel), List.mem_of_getElem? (i := 615) (by decide +kernel), List.mem_of_getElem? (i := 616) (by decide +kernel)⟩
theorem lw_p11 : lw_okq (⟨"TopStreet$Foretold", "evensLead", "(I)I"⟩, 4) := ⟨⟨by decide +kernel, by decide +kernel⟩, List.mem_of_getElem? (i := 132) (by decide +kernel), List.mem_of_getElem? (i := 636) (by decide +kernel), List.mem_of_getElem? (i := 637) (by decide +kernel)⟩
theorem lw_p12 : lw_okq (⟨"TopStreet$Street", "lacking", "(I)I"⟩, 8) := ⟨⟨by decide +kernel, by decide +kernel⟩, List.mem_of_getElem? (i := 35) (by decide +kernel), List.mem_of_getElem? (i := 652) (by decide +kernel), List.mem_of_getElem? (i := 653) (by decide +kernel)⟩
theorem lw_p13 : lw_okq (⟨"TopStreet$Foretold", "isHeard", "(I)Z"⟩, 4) := ⟨⟨by decide +kernel, by decide +kernel⟩, List.mem_of_getElem? (i := 132) (by decide +kernel), List.mem_of_getElem? (i := 669) (by decide +kernel), List.mem_of_getElem? (i := 670) (by decide +kernel)⟩
theorem lw_p14 : lw_okq (⟨"TopStreet$Foretold", "standsCracked", "(LTopStreet$Street;III)Z"⟩, 4) := ⟨⟨by decide +kernel, by decide +kernel⟩, List.mem_of_getElem? (i := 132) (by decide +kernel), List.mem_of_getElem? (i := 706) (by decide +kernel), List.mem_of_getElem? (i := 707) (by decide +kernel)⟩
theorem lw_p15 : lw_okq (⟨"TopStreet$Asks", "sizeInParish", "()I"⟩, 6) := ⟨⟨by decide +kernel, by decide +kernel⟩, List.mem_of_getElem? (i := 181) (by decide +kernel), List.mem_of_getElem? (i := 763) (by decide +kernel), List.mem_of_getElem? (i := 764) (by decide +kernel)⟩
def lw_privs_1 : List (MethodName × Nat) := [(⟨"TopStreet", "found", "(I)I"⟩, 10), (⟨"TopStreet", "fine", "(I)I"⟩, 10), (⟨"TopStreet$Tape", "readSign", "(I)V"⟩, 5), (⟨"TopStreet$Tape", "step", "(Z)V"⟩, 5), (⟨"TopStreet$Tape", "readNumber", "(II)I"⟩, 5), (⟨"TopStreet$Tape", "readHouse", "()V"⟩, 5), (⟨"TopStreet$Tape", "readSort", "()I"⟩, 5), (⟨"TopStreet", "noStreet", "()Z"⟩, 10), (⟨"TopStreet", "isHouse", "(I)Z"⟩, 10), (⟨"TopStreet$Round", "weigh", "(LTopStreet$Street;)V"⟩, 5), (⟨"TopStreet$Foretold", "standingAfter", "(I)I"⟩, 4), (⟨"TopStreet$Foretold", "evensLead", "(I)I"⟩, 4), (⟨"TopStreet$Street", "lacking", "(I)I"⟩, 8), (⟨"TopStreet$Foretold", "isHeard", "(I)Z"⟩, 4), (⟨"TopStreet$Foretold", "standsCracked", "(LTopStreet$Street;III)Z"⟩, 4), (⟨"TopStreet$Asks", "sizeInParish", "()I"⟩, 6)]
theorem lw_r1 : ∀ q ∈ lw_privs_1, lw_okq q := List.forall_mem_cons.mpr ⟨lw_p0, List.forall_mem_cons.mpr ⟨lw_p1, List.forall_mem_cons.mpr ⟨lw_p2, List.forall_mem_cons.mpr ⟨lw_p3, List.forall_mem_cons.mpr ⟨lw_p4, List.forall_mem_cons.mpr ⟨lw_p5, List.forall_mem_cons.mpr ⟨lw_p6, List.forall_mem_cons.mpr ⟨lw_p7, List.forall_mem_cons.mpr ⟨lw_p8, List.forall_mem_cons.mpr ⟨lw_p9, List.forall_mem_cons.mpr ⟨lw_p10, List.forall_mem_cons.mpr ⟨lw_p11, List.forall_mem_cons.mpr ⟨lw_p12, List.forall_mem_cons.mpr ⟨lw_p13, List.forall_mem_cons.mpr ⟨lw_p14, List.forall_mem_cons.mpr ⟨lw_p15, fun _ h => absurd h List.not_mem_nil⟩⟩⟩⟩⟩⟩⟩⟩⟩⟩⟩⟩⟩⟩⟩⟩
theorem lw_p16 : lw_okq (⟨"TopStreet$Asks", "leave", "(I)V"⟩, 6) := ⟨⟨by decide +kernel, by decide +kernel⟩, List.mem_of_getElem? (i := 181) (by decide +kernel), List.mem_of_getElem? (i := 767) (by decide +kernel), List.mem_of_getElem? (i := 768) (by decide +kernel)⟩
theorem lw_p17 : lw_okq (⟨"TopStreet$Asks", "parishSize", "()I"⟩, 6) := ⟨⟨by decide +kernel, by decide +kernel⟩, List.mem_of_getElem? (i := 181) (by decide +kernel), List.mem_of_getElem? (i := 771) (by decide +kernel), List.mem_of_getElem? (i := 772) (by decide +kernel)⟩
theorem lw_p18 : lw_okq (⟨"TopStreet$Asks", "lentSize", "()I"⟩, 6) := ⟨⟨by decide +kernel, by decide +kernel⟩, List.mem_of_getElem? (i := 181) (by decide +kernel), List.mem_of_getElem? (i := 775) (by decide +kernel), List.mem_of_getElem? (i := 776) (by decide +kernel)⟩
theorem lw_p19 : lw_okq (⟨"TopStreet$Asks", "woodSize", "()I"⟩, 6) := ⟨⟨by decide +kernel, by decide +kernel⟩, List.mem_of_getElem? (i := 181) (by decide +kernel), List.mem_of_getElem? (i := 779) (by decide +kernel), List.mem_of_getElem? (i := 780) (by decide +kernel)⟩
theorem lw_p20 : lw_okq (⟨"TopStreet$Asks", "markInWood", "()I"⟩, 6) := ⟨⟨by decide +kernel, by decide +kernel⟩, List.mem_of_getElem? (i := 181) (by decide +kernel), List.mem_of_getElem? (i := 783) (by decide +kernel), List.mem_of_getElem? (i := 784) (by decide +kernel)⟩
theorem lw_p21 : lw_okq (⟨"TopStreet$Asks", "woodMark", "()I"⟩, 6) := ⟨⟨by decide +kernel, by decide +kernel⟩, List.mem_of_getElem? (i := 181) (by decide +kernel), List.mem_of_getElem? (i := 787) (by decide +kernel), List.mem_of_getElem? (i := 788) (by decide +kernel)⟩
theorem lw_p22 : lw_okq (⟨"TopStreet$Asks", "lentMark", "()I"⟩, 6) := ⟨⟨by decide +kernel, by decide +kernel⟩, List.mem_of_getElem? (i := 181) (by decide +kernel), List.mem_of_getElem? (i := 791) (by decide +kernel), List.mem_of_getElem? (i := 792) (by decide +kernel)⟩
theorem lw_p23 : lw_okq (⟨"TopStreet$Asks", "parishMark", "()I"⟩, 6) := ⟨⟨by decide +kernel, by decide +kernel⟩, List.mem_of_getElem? (i := 181) (by decide +kernel), List.mem_of_getElem? (i := 799) (by decide +kernel), List.mem_of_getElem? (i := 800) (by decide +kernel)⟩
theorem lw_p24 : lw_okq (⟨"TopStreet", "rowsThere", "()I"⟩, 10) := ⟨⟨by decide +kernel, by decide +kernel⟩, List.mem_of_getElem? (i := 19) (by decide +kernel), List.mem_of_getElem? (i := 811) (by decide +kernel), List.mem_of_getElem? (i := 812) (by decide +kernel)⟩
theorem lw_p25 : lw_okq (⟨"TopStreetModel", "find", "(I)I"⟩, 24) := ⟨⟨by decide +kernel, by decide +kernel⟩, List.mem_of_getElem? (i := 820) (by decide +kernel), List.mem_of_getElem? (i := 913) (by decide +kernel), List.mem_of_getElem? (i := 914) (by decide +kernel)⟩
theorem lw_p26 : lw_okq (⟨"TopStreetModel", "well", "(I)I"⟩, 24) := ⟨⟨by decide +kernel, by decide +kernel⟩, List.mem_of_getElem? (i := 820) (by decide +kernel), List.mem_of_getElem? (i := 918) (by decide +kernel), List.mem_of_getElem? (i := 919) (by decide +kernel)⟩
theorem lw_p27 : lw_okq (⟨"TopStreetModel", "readStreet", "()Z"⟩, 24) := ⟨⟨by decide +kernel, by decide +kernel⟩, List.mem_of_getElem? (i := 820) (by decide +kernel), List.mem_of_getElem? (i := 947) (by decide +kernel), List.mem_of_getElem? (i := 948) (by decide +kernel)⟩
theorem lw_p28 : lw_okq (⟨"TopStreetModel", "nextToken", "()V"⟩, 24) := ⟨⟨by decide +kernel, by decide +kernel⟩, List.mem_of_getElem? (i := 820) (by decide +kernel), List.mem_of_getElem? (i := 951) (by decide +kernel), List.mem_of_getElem? (i := 952) (by decide +kernel)⟩
theorem lw_p29 : lw_okq (⟨"TopStreetModel", "takes", "(I)Z"⟩, 24) := ⟨⟨by decide +kernel, by decide +kernel⟩, List.mem_of_getElem? (i := 820) (by decide +kernel), List.mem_of_getElem? (i := 959) (by decide +kernel), List.mem_of_getElem? (i := 960) (by decide +kernel)⟩
theorem lw_p30 : lw_okq (⟨"TopStreetModel", "faults", "(I)Z"⟩, 24) := ⟨⟨by decide +kernel, by decide +kernel⟩, List.mem_of_getElem? (i := 820) (by decide +kernel), List.mem_of_getElem? (i := 963) (by decide +kernel), List.mem_of_getElem? (i := 964) (by decide +kernel)⟩
theorem lw_p31 : lw_okq (⟨"TopStreetModel", "takesNumber", "(IIII)Z"⟩, 24) := ⟨⟨by decide +kernel, by decide +kernel⟩, List.mem_of_getElem? (i := 820) (by decide +kernel), List.mem_of_getElem? (i := 967) (by decide +kernel), List.mem_of_getElem? (i := 968) (by decide +kernel)⟩
def lw_privs_2 : List (MethodName × Nat) := [(⟨"TopStreet$Asks", "leave", "(I)V"⟩, 6), (⟨"TopStreet$Asks", "parishSize", "()I"⟩, 6), (⟨"TopStreet$Asks", "lentSize", "()I"⟩, 6), (⟨"TopStreet$Asks", "woodSize", "()I"⟩, 6), (⟨"TopStreet$Asks", "markInWood", "()I"⟩, 6), (⟨"TopStreet$Asks", "woodMark", "()I"⟩, 6), (⟨"TopStreet$Asks", "lentMark", "()I"⟩, 6), (⟨"TopStreet$Asks", "parishMark", "()I"⟩, 6), (⟨"TopStreet", "rowsThere", "()I"⟩, 10), (⟨"TopStreetModel", "find", "(I)I"⟩, 24), (⟨"TopStreetModel", "well", "(I)I"⟩, 24), (⟨"TopStreetModel", "readStreet", "()Z"⟩, 24), (⟨"TopStreetModel", "nextToken", "()V"⟩, 24), (⟨"TopStreetModel", "takes", "(I)Z"⟩, 24), (⟨"TopStreetModel", "faults", "(I)Z"⟩, 24), (⟨"TopStreetModel", "takesNumber", "(IIII)Z"⟩, 24)]
theorem lw_r2 : ∀ q ∈ lw_privs_2, lw_okq q := List.forall_mem_cons.mpr ⟨lw_p16, List.forall_mem_cons.mpr ⟨lw_p17, List.forall_mem_cons.mpr ⟨lw_p18, List.forall_mem_cons.mpr ⟨lw_p19, List.forall_mem_cons.mpr ⟨lw_p20, List.forall_mem_cons.mpr ⟨lw_p21, List.forall_mem_cons.mpr ⟨lw_p22, List.forall_mem_cons.mpr ⟨lw_p23, List.forall_mem_cons.mpr ⟨lw_p24, List.forall_mem_cons.mpr ⟨lw_p25, List.forall_mem_cons.mpr ⟨lw_p26, List.forall_mem_cons.mpr ⟨lw_p27, List.forall_mem_cons.mpr ⟨lw_p28, List.forall_mem_cons.mpr ⟨lw_p29, List.forall_mem_cons.mpr ⟨lw_p30, List.forall_mem_cons.mpr ⟨lw_p31, fun _ h => absurd h List.not_mem_nil⟩⟩⟩⟩⟩⟩⟩⟩⟩⟩⟩⟩⟩⟩⟩⟩
theorem lw_p32 : lw_okq (⟨"TopStreetModel", "readHouse", "()Z"⟩, 24) := ⟨⟨by decide +kernel, by decide +kernel⟩, List.mem_of_getElem? (i := 820) (by decide +kernel), List.mem_of_getElem? (i := 971) (by decide +kernel), List.mem_of_getElem? (i := 972) (by decide +kernel)⟩
theorem lw_p33 : lw_okq (⟨"TopStreetModel", "note", "()V"⟩, 24) := ⟨⟨by decide +kernel, by decide +kernel⟩, List.mem_of_getElem? (i := 820) (by decide +kernel), List.mem_of_getElem? (i := 993) (by decide +kernel), List.mem_of_getElem? (i := 994) (by decide +kernel)⟩
theorem lw_p34 : lw_okq (⟨"TopStreetModel", "oneHour", "()V"⟩, 24) := ⟨⟨by decide +kernel, by decide +kernel⟩, List.mem_of_getElem? (i := 820) (by decide +kernel), List.mem_of_getElem? (i := 997) (by decide +kernel), List.mem_of_getElem? (i := 998) (by decide +kernel)⟩
theorem lw_p35 : lw_okq (⟨"TopStreetModel", "standing", "()I"⟩, 24) := ⟨⟨by decide +kernel, by decide +kernel⟩, List.mem_of_getElem? (i := 820) (by decide +kernel), List.mem_of_getElem? (i := 1001) (by decide +kernel), List.mem_of_getElem? (i := 1002) (by decide +kernel)⟩
theorem lw_p36 : lw_okq (⟨"TopStreetModel", "stands", "(I)Z"⟩, 24) := ⟨⟨by decide +kernel, by decide +kernel⟩, List.mem_of_getElem? (i := 820) (by decide +kernel), List.mem_of_getElem? (i := 1005) (by decide +kernel), List.mem_of_getElem? (i := 1006) (by decide +kernel)⟩
theorem lw_p37 : lw_okq (⟨"TopStreetModel", "lossOf", "(I)I"⟩, 24) := ⟨⟨by decide +kernel, by decide +kernel⟩, List.mem_of_getElem? (i := 820) (by decide +kernel), List.mem_of_getElem? (i := 1009) (by decide +kernel), List.mem_of_getElem? (i := 1010) (by decide +kernel)⟩
theorem lw_p38 : lw_okq (⟨"TopStreetModel", "leans", "(I)Z"⟩, 24) := ⟨⟨by decide +kernel, by decide +kernel⟩, List.mem_of_getElem? (i := 820) (by decide +kernel), List.mem_of_getElem? (i := 1013) (by decide +kernel), List.mem_of_getElem? (i := 1014) (by decide +kernel)⟩
theorem lw_p39 : lw_okq (⟨"TopStreetModel", "touches", "(I)I"⟩, 24) := ⟨⟨by decide +kernel, by decide +kernel⟩, List.mem_of_getElem? (i := 820) (by decide +kernel), List.mem_of_getElem? (i := 1017) (by decide +kernel), List.mem_of_getElem? (i := 1018) (by decide +kernel)⟩
theorem lw_p40 : lw_okq (⟨"TopStreetModel", "loses", "(II)V"⟩, 24) := ⟨⟨by decide +kernel, by decide +kernel⟩, List.mem_of_getElem? (i := 820) (by decide +kernel), List.mem_of_getElem? (i := 1024) (by decide +kernel), List.mem_of_getElem? (i := 1025) (by decide +kernel)⟩
theorem lw_p41 : lw_okq (⟨"TopStreetModel", "isHouse", "(I)Z"⟩, 24) := ⟨⟨by decide +kernel, by decide +kernel⟩, List.mem_of_getElem? (i := 820) (by decide +kernel), List.mem_of_getElem? (i := 1032) (by decide +kernel), List.mem_of_getElem? (i := 1033) (by decide +kernel)⟩
theorem lw_p42 : lw_okq (⟨"TopStreetModel", "lashBy", "(II)V"⟩, 24) := ⟨⟨by decide +kernel, by decide +kernel⟩, List.mem_of_getElem? (i := 820) (by decide +kernel), List.mem_of_getElem? (i := 1036) (by decide +kernel), List.mem_of_getElem? (i := 1037) (by decide +kernel)⟩
theorem lw_p43 : lw_okq (⟨"TopStreetModel", "leaning", "()I"⟩, 24) := ⟨⟨by decide +kernel, by decide +kernel⟩, List.mem_of_getElem? (i := 820) (by decide +kernel), List.mem_of_getElem? (i := 1056) (by decide +kernel), List.mem_of_getElem? (i := 1057) (by decide +kernel)⟩
theorem lw_p44 : lw_okq (⟨"TopStreetModel", "spinOf", "(II)I"⟩, 24) := ⟨⟨by decide +kernel, by decide +kernel⟩, List.mem_of_getElem? (i := 820) (by decide +kernel), List.mem_of_getElem? (i := 1060) (by decide +kernel), List.mem_of_getElem? (i := 1061) (by decide +kernel)⟩
theorem lw_p45 : lw_okq (⟨"TopStreetModel", "putAside", "()V"⟩, 24) := ⟨⟨by decide +kernel, by decide +kernel⟩, List.mem_of_getElem? (i := 820) (by decide +kernel), List.mem_of_getElem? (i := 1069) (by decide +kernel), List.mem_of_getElem? (i := 1070) (by decide +kernel)⟩
theorem lw_p46 : lw_okq (⟨"TopStreetModel", "goOn", "(I)V"⟩, 24) := ⟨⟨by decide +kernel, by decide +kernel⟩, List.mem_of_getElem? (i := 820) (by decide +kernel), List.mem_of_getElem? (i := 1073) (by decide +kernel), List.mem_of_getElem? (i := 1074) (by decide +kernel)⟩
theorem lw_p47 : lw_okq (⟨"TopStreetModel", "takeBack", "()V"⟩, 24) := ⟨⟨by decide +kernel, by decide +kernel⟩, List.mem_of_getElem? (i := 820) (by decide +kernel), List.mem_of_getElem? (i := 1077) (by decide +kernel), List.mem_of_getElem? (i := 1078) (by decide +kernel)⟩
def lw_privs_3 : List (MethodName × Nat) := [(⟨"TopStreetModel", "readHouse", "()Z"⟩, 24), (⟨"TopStreetModel", "note", "()V"⟩, 24), (⟨"TopStreetModel", "oneHour", "()V"⟩, 24), (⟨"TopStreetModel", "standing", "()I"⟩, 24), (⟨"TopStreetModel", "stands", "(I)Z"⟩, 24), (⟨"TopStreetModel", "lossOf", "(I)I"⟩, 24), (⟨"TopStreetModel", "leans", "(I)Z"⟩, 24), (⟨"TopStreetModel", "touches", "(I)I"⟩, 24), (⟨"TopStreetModel", "loses", "(II)V"⟩, 24), (⟨"TopStreetModel", "isHouse", "(I)Z"⟩, 24), (⟨"TopStreetModel", "lashBy", "(II)V"⟩, 24), (⟨"TopStreetModel", "leaning", "()I"⟩, 24), (⟨"TopStreetModel", "spinOf", "(II)I"⟩, 24), (⟨"TopStreetModel", "putAside", "()V"⟩, 24), (⟨"TopStreetModel", "goOn", "(I)V"⟩, 24), (⟨"TopStreetModel", "takeBack", "()V"⟩, 24)]
theorem lw_r3 : ∀ q ∈ lw_privs_3, lw_okq q := List.forall_mem_cons.mpr ⟨lw_p32, List.forall_mem_cons.mpr ⟨lw_p33, List.forall_mem_cons.mpr ⟨lw_p34, List.forall_mem_cons.mpr ⟨lw_p35, List.forall_mem_cons.mpr ⟨lw_p36, List.forall_mem_cons.mpr ⟨lw_p37, List.forall_mem_cons.mpr ⟨lw_p38, List.forall_mem_cons.mpr ⟨lw_p39, List.forall_mem_cons.mpr ⟨lw_p40, List.forall_mem_cons.mpr ⟨lw_p41, List.forall_mem_cons.mpr ⟨lw_p42, List.forall_mem_cons.mpr ⟨lw_p43, List.forall_mem_cons.mpr ⟨lw_p44, List.forall_mem_cons.mpr ⟨lw_p45, List.forall_mem_cons.mpr ⟨lw_p46, List.forall_mem_cons.mpr ⟨lw_p47, fun _ h => absurd h List.not_mem_nil⟩⟩⟩⟩⟩⟩⟩⟩⟩⟩⟩⟩⟩⟩⟩⟩
theorem lw_p48 : lw_okq (⟨"TopStreetModel", "isHow", "(II)Z"⟩, 24) := ⟨⟨by decide +kernel, by decide +kernel⟩, List.mem_of_getElem? (i := 820) (by decide +kernel), List.mem_of_getElem? (i := 1085) (by decide +kernel), List.mem_of_getElem? (i := 1086) (by decide +kernel)⟩
theorem lw_p49 : lw_okq (⟨"TopStreetModel", "leftBehind", "(I)I"⟩, 24) := ⟨⟨by decide +kernel, by decide +kernel⟩, List.mem_of_getElem? (i := 820) (by decide +kernel), List.mem_of_getElem? (i := 1104) (by decide +kernel), List.mem_of_getElem? (i := 1105) (by decide +kernel)⟩
theorem lw_p50 : lw_okq (⟨"TopStreetModel", "goesRound", "(IIII)Z"⟩, 24) := ⟨⟨by decide +kernel, by decide +kernel⟩, List.mem_of_getElem? (i := 820) (by decide +kernel), List.mem_of_getElem? (i := 1112) (by decide +kernel), List.mem_of_getElem? (i := 1113) (by decide +kernel)⟩
theorem lw_p51 : lw_okq (⟨"TopStreetModel", "leastSpin", "()I"⟩, 24) := ⟨⟨by decide +kernel, by decide +kernel⟩, List.mem_of_getElem? (i := 820) (by decide +kernel), List.mem_of_getElem? (i := 1119) (by decide +kernel), List.mem_of_getElem? (i := 1120) (by decide +kernel)⟩
theorem lw_p52 : lw_okq (⟨"TopStreetModel", "lashTurns", "(II)V"⟩, 24) := ⟨⟨by decide +kernel, by decide +kernel⟩, List.mem_of_getElem? (i := 820) (by decide +kernel), List.mem_of_getElem? (i := 1137) (by decide +kernel), List.mem_of_getElem? (i := 1138) (by decide +kernel)⟩
theorem lw_p53 : lw_okq (⟨"TopStreetModel", "lackOf", "(I)I"⟩, 24) := ⟨⟨by decide +kernel, by decide +kernel⟩, List.mem_of_getElem? (i := 820) (by decide +kernel), List.mem_of_getElem? (i := 1146) (by decide +kernel), List.mem_of_getElem? (i := 1147) (by decide +kernel)⟩
theorem lw_p54 : lw_okq (⟨"TopStreetModel", "lacks", "(III)I"⟩, 24) := ⟨⟨by decide +kernel, by decide +kernel⟩, List.mem_of_getElem? (i := 820) (by decide +kernel), List.mem_of_getElem? (i := 1155) (by decide +kernel), List.mem_of_getElem? (i := 1156) (by decide +kernel)⟩
theorem lw_p55 : lw_okq (⟨"TopStreetModel", "spinsBy", "(IIII)I"⟩, 24) := ⟨⟨by decide +kernel, by decide +kernel⟩, List.mem_of_getElem? (i := 820) (by decide +kernel), List.mem_of_getElem? (i := 1159) (by decide +kernel), List.mem_of_getElem? (i := 1160) (by decide +kernel)⟩
theorem lw_p56 : lw_okq (⟨"TopStreetModel", "isSo", "(III)Z"⟩, 24) := ⟨⟨by decide +kernel, by decide +kernel⟩, List.mem_of_getElem? (i := 820) (by decide +kernel), List.mem_of_getElem? (i := 1163) (by decide +kernel), List.mem_of_getElem? (i := 1164) (by decide +kernel)⟩
theorem lw_p57 : lw_okq (⟨"TopStreetModel", "sizeOf", "(I)I"⟩, 24) := ⟨⟨by decide +kernel, by decide +kernel⟩, List.mem_of_getElem? (i := 820) (by decide +kernel), List.mem_of_getElem? (i := 1213) (by decide +kernel), List.mem_of_getElem? (i := 1214) (by decide +kernel)⟩
theorem lw_p58 : lw_okq (⟨"TopStreetModel", "begin", "(I)V"⟩, 24) := ⟨⟨by decide +kernel, by decide +kernel⟩, List.mem_of_getElem? (i := 820) (by decide +kernel), List.mem_of_getElem? (i := 1217) (by decide +kernel), List.mem_of_getElem? (i := 1218) (by decide +kernel)⟩
theorem lw_p59 : lw_okq (⟨"TopStreetModel", "woodSize", "(I)I"⟩, 24) := ⟨⟨by decide +kernel, by decide +kernel⟩, List.mem_of_getElem? (i := 820) (by decide +kernel), List.mem_of_getElem? (i := 1221) (by decide +kernel), List.mem_of_getElem? (i := 1222) (by decide +kernel)⟩
theorem lw_p60 : lw_okq (⟨"TopStreetModel", "lent", "(II)I"⟩, 24) := ⟨⟨by decide +kernel, by decide +kernel⟩, List.mem_of_getElem? (i := 820) (by decide +kernel), List.mem_of_getElem? (i := 1225) (by decide +kernel), List.mem_of_getElem? (i := 1226) (by decide +kernel)⟩
theorem lw_p61 : lw_okq (⟨"TopStreetModel", "markOf", "(I)I"⟩, 24) := ⟨⟨by decide +kernel, by decide +kernel⟩, List.mem_of_getElem? (i := 820) (by decide +kernel), List.mem_of_getElem? (i := 1229) (by decide +kernel), List.mem_of_getElem? (i := 1230) (by decide +kernel)⟩
theorem lw_p62 : lw_okq (⟨"TopStreetModel", "woodMark", "(I)I"⟩, 24) := ⟨⟨by decide +kernel, by decide +kernel⟩, List.mem_of_getElem? (i := 820) (by decide +kernel), List.mem_of_getElem? (i := 1233) (by decide +kernel), List.mem_of_getElem? (i := 1234) (by decide +kernel)⟩
theorem lw_p63 : lw_okq (⟨"TopStreetModel", "sizeOfParish", "(I)I"⟩, 24) := ⟨⟨by decide +kernel, by decide +kernel⟩, List.mem_of_getElem? (i := 820) (by decide +kernel), List.mem_of_getElem? (i := 1237) (by decide +kernel), List.mem_of_getElem? (i := 1238) (by decide +kernel)⟩
def lw_privs_4 : List (MethodName × Nat) := [(⟨"TopStreetModel", "isHow", "(II)Z"⟩, 24), (⟨"TopStreetModel", "leftBehind", "(I)I"⟩, 24), (⟨"TopStreetModel", "goesRound", "(IIII)Z"⟩, 24), (⟨"TopStreetModel", "leastSpin", "()I"⟩, 24), (⟨"TopStreetModel", "lashTurns", "(II)V"⟩, 24), (⟨"TopStreetModel", "lackOf", "(I)I"⟩, 24), (⟨"TopStreetModel", "lacks", "(III)I"⟩, 24), (⟨"TopStreetModel", "spinsBy", "(IIII)I"⟩, 24), (⟨"TopStreetModel", "isSo", "(III)Z"⟩, 24), (⟨"TopStreetModel", "sizeOf", "(I)I"⟩, 24), (⟨"TopStreetModel", "begin", "(I)V"⟩, 24), (⟨"TopStreetModel", "woodSize", "(I)I"⟩, 24), (⟨"TopStreetModel", "lent", "(II)I"⟩, 24), (⟨"TopStreetModel", "markOf", "(I)I"⟩, 24), (⟨"TopStreetModel", "woodMark", "(I)I"⟩, 24), (⟨"TopStreetModel", "sizeOfParish", "(I)I"⟩, 24)]
theorem lw_r4 : ∀ q ∈ lw_privs_4, lw_okq q := List.forall_mem_cons.mpr ⟨lw_p48, List.forall_mem_cons.mpr ⟨lw_p49, List.forall_mem_cons.mpr ⟨lw_p50, List.forall_mem_cons.mpr ⟨lw_p51, List.forall_mem_cons.mpr ⟨lw_p52, List.forall_mem_cons.mpr ⟨lw_p53, List.forall_mem_cons.mpr ⟨lw_p54, List.forall_mem_cons.mpr ⟨lw_p55, List.forall_mem_cons.mpr ⟨lw_p56, List.forall_mem_cons.mpr ⟨lw_p57, List.forall_mem_cons.mpr ⟨lw_p58, List.forall_mem_cons.mpr ⟨lw_p59, List.forall_mem_cons.mpr ⟨lw_p60, List.forall_mem_cons.mpr ⟨lw_p61, List.forall_mem_cons.mpr ⟨lw_p62, List.forall_mem_cons.mpr ⟨lw_p63, fun _ h => absurd h List.not_mem_nil⟩⟩⟩⟩⟩⟩⟩⟩⟩⟩⟩⟩⟩⟩⟩⟩
theorem lw_p64 : lw_okq (⟨"TopStreetModel", "parishSize", "(I)I"⟩, 24) := ⟨⟨by decide +kernel, by decide +kernel⟩, List.mem_of_getElem? (i := 820) (by decide +kernel), List.mem_of_getElem? (i := 1241) (by decide +kernel), List.mem_of_getElem? (i := 1242) (by decide +kernel)⟩
def lw_privs_5 : List (MethodName × Nat) := [(⟨"TopStreetModel", "parishSize", "(I)I"⟩, 24)]
theorem lw_r5 : ∀ q ∈ lw_privs_5, lw_okq q := List.forall_mem_cons.mpr ⟨lw_p64, fun _ h => absurd h List.not_mem_nil⟩
def lw_privs : List (MethodName × Nat) := lw_privs_1 ++ (lw_privs_2 ++ (lw_privs_3 ++ (lw_privs_4 ++ (lw_privs_5))))
def lw_tbl : List Cond := k2_sels lw_privs ++ tables_1
theorem lw_privs_ok : ∀ q ∈ lw_privs, lw_okq q := by
  show ∀ q ∈ lw_privs_1 ++ (lw_privs_2 ++ (lw_privs_3 ++ (lw_privs_4 ++ (lw_privs_5)))), lw_okq q
  exact List.forall_mem_append.mpr ⟨lw_r1, List.forall_mem_append.mpr ⟨lw_r2, List.forall_mem_append.mpr ⟨lw_r3, List.forall_mem_append.mpr ⟨lw_r4, lw_r5⟩⟩⟩⟩
def RX0 : String := "TopStreet$Acts"
def TX0 : u_T := fun k => match k with
  | 0 => ("TopStreet$Acts", "before", "[LTopStreet$Street;", true)
  | 1 => ("TopStreet$Acts", "oldest", "I", false)
  | _ => ("TopStreet$Acts", "count", "I", false)
def tyX0 : Nat → FieldType := fun k => match k with
  | 0 => .array (.object "TopStreet$Street")
  | 1 => .int
  | _ => .int
abbrev wsX00 : List Cond := u_ws RX0 TX0 3
theorem nmX0 : ∀ a, a < 3 → ∀ b, b < 3 → a ≠ b → (TX0 a).2.1 ≠ (TX0 b).2.1 := by decide +kernel
theorem tyX0_ok : ∀ k, k < 3 → parseFieldDescriptor (TX0 k).2.2.1 = some (tyX0 k) := by decide +kernel
abbrev cX0_init : ByteArray := prog_2_method_1_code
def yX0_init : MethodName := ⟨RX0, "<init>", "()V"⟩
abbrev cX0_forget : ByteArray := prog_2_method_2_code
def yX0_forget : MethodName := ⟨RX0, "forget", "()V"⟩
abbrev cX0_keep : ByteArray := prog_2_method_3_code
def yX0_keep : MethodName := ⟨RX0, "keep", "(LTopStreet$Street;)V"⟩
abbrev cX0_takeBack : ByteArray := prog_2_method_4_code
def yX0_takeBack : MethodName := ⟨RX0, "takeBack", "(LTopStreet$Street;)V"⟩
def RX1 : String := "TopStreet$Asks"
def TX1 : u_T := fun k => match k with
  | 0 => ("TopStreet$Asks", "bodies", "[I", true)
  | 1 => ("TopStreet$Asks", "traced", "I", false)
  | 2 => ("TopStreet$Asks", "number", "I", false)
  | 3 => ("TopStreet$Asks", "kind", "I", false)
  | 4 => ("TopStreet$Asks", "rub", "I", false)
  | _ => ("TopStreet$Asks", "spin", "I", false)
def tyX1 : Nat → FieldType := fun k => match k with
  | 0 => .array .int
  | 1 => .int
  | 2 => .int
  | 3 => .int
  | 4 => .int
  | _ => .int
abbrev wsX10 : List Cond := u_ws RX1 TX1 6
theorem nmX1 : ∀ a, a < 6 → ∀ b, b < 6 → a ≠ b → (TX1 a).2.1 ≠ (TX1 b).2.1 := by decide +kernel
theorem tyX1_ok : ∀ k, k < 6 → parseFieldDescriptor (TX1 k).2.2.1 = some (tyX1 k) := by decide +kernel
abbrev cX1_init : ByteArray := prog_3_method_1_code
def yX1_init : MethodName := ⟨RX1, "<init>", "()V"⟩
abbrev cX1_turnTo : ByteArray := prog_3_method_2_code
def yX1_turnTo : MethodName := ⟨RX1, "turnTo", "(LTopStreet$Street;I)V"⟩
abbrev cX1_leave : ByteArray := prog_3_method_3_code
def yX1_leave : MethodName := ⟨RX1, "leave", "(I)V"⟩
abbrev cX1_size : ByteArray := prog_3_method_4_code
def yX1_size : MethodName := ⟨RX1, "size", "()I"⟩
abbrev cX1_mark : ByteArray := prog_3_method_5_code
def yX1_mark : MethodName := ⟨RX1, "mark", "()I"⟩
abbrev cX1_sizeInParish : ByteArray := prog_3_method_6_code
def yX1_sizeInParish : MethodName := ⟨RX1, "sizeInParish", "()I"⟩
abbrev cX1_markInWood : ByteArray := prog_3_method_7_code
def yX1_markInWood : MethodName := ⟨RX1, "markInWood", "()I"⟩
abbrev cX1_lentSize : ByteArray := prog_3_method_8_code
def yX1_lentSize : MethodName := ⟨RX1, "lentSize", "()I"⟩
abbrev cX1_woodSize : ByteArray := prog_3_method_9_code
def yX1_woodSize : MethodName := ⟨RX1, "woodSize", "()I"⟩
abbrev cX1_parishSize : ByteArray := prog_3_method_10_code
def yX1_parishSize : MethodName := ⟨RX1, "parishSize", "()I"⟩
abbrev cX1_lentMark : ByteArray := prog_3_method_11_code
def yX1_lentMark : MethodName := ⟨RX1, "lentMark", "()I"⟩
abbrev cX1_woodMark : ByteArray := prog_3_method_12_code
def yX1_woodMark : MethodName := ⟨RX1, "woodMark", "()I"⟩
abbrev cX1_parishMark : ByteArray := prog_3_method_13_code
def yX1_parishMark : MethodName := ⟨RX1, "parishMark", "()I"⟩
def RX2 : String := "TopStreet$Foretold"
def TX2 : u_T := fun k => match k with
  | 0 => ("TopStreet$Foretold", "then", "LTopStreet$Street;", true)
  | 1 => ("TopStreet$Foretold", "played", "LTopStreet$Street;", true)
  | 2 => ("TopStreet$Foretold", "hum", "[I", true)
  | _ => ("TopStreet$Foretold", "humHours", "I", false)
def tyX2 : Nat → FieldType := fun k => match k with
  | 0 => .object "TopStreet$Street"
  | 1 => .object "TopStreet$Street"
  | 2 => .array .int
  | _ => .int
abbrev wsX20 : List Cond := u_ws RX2 TX2 4
theorem nmX2 : ∀ a, a < 4 → ∀ b, b < 4 → a ≠ b → (TX2 a).2.1 ≠ (TX2 b).2.1 := by decide +kernel
theorem tyX2_ok : ∀ k, k < 4 → parseFieldDescriptor (TX2 k).2.2.1 = some (tyX2 k) := by decide +kernel
abbrev cX2_init : ByteArray := prog_4_method_1_code
def yX2_init : MethodName := ⟨RX2, "<init>", "()V"⟩
abbrev cX2_after : ByteArray := prog_4_method_2_code
def yX2_after : MethodName := ⟨RX2, "after", "(LTopStreet$Street;I)LTopStreet$Street;"⟩
abbrev cX2_hoursUntil : ByteArray := prog_4_method_3_code
def yX2_hoursUntil : MethodName := ⟨RX2, "hoursUntil", "(LTopStreet$Street;II)I"⟩
abbrev cX2_firstToFall : ByteArray := prog_4_method_4_code
def yX2_firstToFall : MethodName := ⟨RX2, "firstToFall", "(LTopStreet$Street;I)I"⟩
abbrev cX2_standingAfter : ByteArray := prog_4_method_5_code
def yX2_standingAfter : MethodName := ⟨RX2, "standingAfter", "(I)I"⟩
abbrev cX2_bestWalls : ByteArray := prog_4_method_6_code
def yX2_bestWalls : MethodName := ⟨RX2, "bestWalls", "(LTopStreet$Street;II)I"⟩
abbrev cX2_bestSteadied : ByteArray := prog_4_method_7_code
def yX2_bestSteadied : MethodName := ⟨RX2, "bestSteadied", "(LTopStreet$Street;II)I"⟩
abbrev cX2_play : ByteArray := prog_4_method_8_code
def yX2_play : MethodName := ⟨RX2, "play", "(LTopStreet$Foretold;III)I"⟩
abbrev cX2_evensLead : ByteArray := prog_4_method_9_code
def yX2_evensLead : MethodName := ⟨RX2, "evensLead", "(I)I"⟩
abbrev cX2_listen : ByteArray := prog_4_method_10_code
def yX2_listen : MethodName := ⟨RX2, "listen", "([III)V"⟩
abbrev cX2_isHeard : ByteArray := prog_4_method_11_code
def yX2_isHeard : MethodName := ⟨RX2, "isHeard", "(I)Z"⟩
abbrev cX2_kindsHeard : ByteArray := prog_4_method_12_code
def yX2_kindsHeard : MethodName := ⟨RX2, "kindsHeard", "(LTopStreet$Street;I)I"⟩
abbrev cX2_rubsHeard : ByteArray := prog_4_method_13_code
def yX2_rubsHeard : MethodName := ⟨RX2, "rubsHeard", "(LTopStreet$Street;I)I"⟩
abbrev cX2_spinsHeard : ByteArray := prog_4_method_14_code
def yX2_spinsHeard : MethodName := ⟨RX2, "spinsHeard", "(LTopStreet$Street;II)I"⟩
abbrev cX2_fingersHeard : ByteArray := prog_4_method_15_code
def yX2_fingersHeard : MethodName := ⟨RX2, "fingersHeard", "(LTopStreet$Street;I)I"⟩
abbrev cX2_lashesHeard : ByteArray := prog_4_method_16_code
def yX2_lashesHeard : MethodName := ⟨RX2, "lashesHeard", "(LTopStreet$Street;II)I"⟩
abbrev cX2_chance : ByteArray := prog_4_method_17_code
def yX2_chance : MethodName := ⟨RX2, "chance", "(LTopStreet$Street;IIII)J"⟩
abbrev cX2_standsCracked : ByteArray := prog_4_method_18_code
def yX2_standsCracked : MethodName := ⟨RX2, "standsCracked", "(LTopStreet$Street;III)Z"⟩
abbrev cX2_power : ByteArray := prog_4_method_19_code
def yX2_power : MethodName := ⟨RX2, "power", "(II)J"⟩
abbrev cX2_commonDivisor : ByteArray := prog_4_method_20_code
def yX2_commonDivisor : MethodName := ⟨RX2, "commonDivisor", "(JJ)J"⟩
abbrev cX2_decades : ByteArray := prog_4_method_21_code
def yX2_decades : MethodName := ⟨RX2, "decades", "(LTopStreet$Street;II)LTopStreet$Street;"⟩
def RX3 : String := "TopStreet$Round"
def TX3 : u_T := fun k => match k with
  | 0 => ("TopStreet$Round", "behind", "[LTopStreet$Street;", true)
  | 1 => ("TopStreet$Round", "moves", "[I", true)
  | 2 => ("TopStreet$Round", "bestMoves", "[I", true)
  | 3 => ("TopStreet$Round", "bestStanding", "I", false)
  | _ => ("TopStreet$Round", "bestLeast", "I", false)
def tyX3 : Nat → FieldType := fun k => match k with
  | 0 => .array (.object "TopStreet$Street")
  | 1 => .array .int
  | 2 => .array .int
  | 3 => .int
  | _ => .int
abbrev wsX30 : List Cond := u_ws RX3 TX3 5
theorem nmX3 : ∀ a, a < 5 → ∀ b, b < 5 → a ≠ b → (TX3 a).2.1 ≠ (TX3 b).2.1 := by decide +kernel
theorem tyX3_ok : ∀ k, k < 5 → parseFieldDescriptor (TX3 k).2.2.1 = some (tyX3 k) := by decide +kernel
abbrev cX3_init : ByteArray := prog_5_method_1_code
def yX3_init : MethodName := ⟨RX3, "<init>", "()V"⟩
abbrev cX3_search : ByteArray := prog_5_method_2_code
def yX3_search : MethodName := ⟨RX3, "search", "(LTopStreet$Street;II)V"⟩
abbrev cX3_walk : ByteArray := prog_5_method_3_code
def yX3_walk : MethodName := ⟨RX3, "walk", "(LTopStreet$Round;III)V"⟩
abbrev cX3_weigh : ByteArray := prog_5_method_4_code
def yX3_weigh : MethodName := ⟨RX3, "weigh", "(LTopStreet$Street;)V"⟩
abbrev cX3_leastSpin : ByteArray := prog_5_method_5_code
def yX3_leastSpin : MethodName := ⟨RX3, "leastSpin", "(LTopStreet$Street;)I"⟩
def RX4 : String := "TopStreet$Row"
def TX4 : u_T := fun k => match k with
  | 0 => ("TopStreet$Row", "items", "[I", true)
  | 1 => ("TopStreet$Row", "missing", "Z", false)
  | 2 => ("TopStreet$Row", "lane", "I", false)
  | _ => ("TopStreet$Row", "size", "I", false)
def tyX4 : Nat → FieldType := fun k => match k with
  | 0 => .array .int
  | 1 => .boolean
  | 2 => .int
  | _ => .int
abbrev wsX40 : List Cond := u_ws RX4 TX4 4
theorem nmX4 : ∀ a, a < 4 → ∀ b, b < 4 → a ≠ b → (TX4 a).2.1 ≠ (TX4 b).2.1 := by decide +kernel
theorem tyX4_ok : ∀ k, k < 4 → parseFieldDescriptor (TX4 k).2.2.1 = some (tyX4 k) := by decide +kernel
abbrev cX4_init : ByteArray := prog_6_method_1_code
def yX4_init : MethodName := ⟨RX4, "<init>", "()V"⟩
abbrev cX4_make : ByteArray := prog_6_method_2_code
def yX4_make : MethodName := ⟨RX4, "make", "(II)V"⟩
abbrev cX4_put : ByteArray := prog_6_method_3_code
def yX4_put : MethodName := ⟨RX4, "put", "(II)I"⟩
abbrev cX4_spanFinding : ByteArray := prog_6_method_4_code
def yX4_spanFinding : MethodName := ⟨RX4, "spanFinding", "(II)I"⟩
def RX5 : String := "TopStreet$Street"
def TX5 : u_T := fun k => match k with
  | 0 => ("TopStreet$Street", "kind", "[I", true)
  | 1 => ("TopStreet$Street", "rub", "[I", true)
  | 2 => ("TopStreet$Street", "spin", "[I", true)
  | 3 => ("TopStreet$Street", "houses", "I", false)
  | 4 => ("TopStreet$Street", "lash", "I", false)
  | 5 => ("TopStreet$Street", "lean", "I", false)
  | 6 => ("TopStreet$Street", "hour", "I", false)
  | _ => ("TopStreet$Street", "walls", "I", false)
def tyX5 : Nat → FieldType := fun k => match k with
  | 0 => .array .int
  | 1 => .array .int
  | 2 => .array .int
  | 3 => .int
  | 4 => .int
  | 5 => .int
  | 6 => .int
  | _ => .int
abbrev wsX50 : List Cond := u_ws RX5 TX5 8
theorem nmX5 : ∀ a, a < 8 → ∀ b, b < 8 → a ≠ b → (TX5 a).2.1 ≠ (TX5 b).2.1 := by decide +kernel
theorem tyX5_ok : ∀ k, k < 8 → parseFieldDescriptor (TX5 k).2.2.1 = some (tyX5 k) := by decide +kernel
abbrev cX5_init : ByteArray := prog_7_method_1_code
def yX5_init : MethodName := ⟨RX5, "<init>", "()V"⟩
abbrev cX5_add : ByteArray := prog_7_method_2_code
def yX5_add : MethodName := ⟨RX5, "add", "(III)V"⟩
abbrev cX5_take : ByteArray := prog_7_method_3_code
def yX5_take : MethodName := ⟨RX5, "take", "(LTopStreet$Street;)V"⟩
abbrev cX5_raise : ByteArray := prog_7_method_4_code
def yX5_raise : MethodName := ⟨RX5, "raise", "(II)V"⟩
abbrev cX5_leans : ByteArray := prog_7_method_5_code
def yX5_leans : MethodName := ⟨RX5, "leans", "(I)Z"⟩
abbrev cX5_wallsOf : ByteArray := prog_7_method_6_code
def yX5_wallsOf : MethodName := ⟨RX5, "wallsOf", "(I)I"⟩
abbrev cX5_standing : ByteArray := prog_7_method_7_code
def yX5_standing : MethodName := ⟨RX5, "standing", "()I"⟩
abbrev cX5_leaning : ByteArray := prog_7_method_8_code
def yX5_leaning : MethodName := ⟨RX5, "leaning", "()I"⟩
abbrev cX5_allSpin : ByteArray := prog_7_method_9_code
def yX5_allSpin : MethodName := ⟨RX5, "allSpin", "()I"⟩
abbrev cX5_loss : ByteArray := prog_7_method_10_code
def yX5_loss : MethodName := ⟨RX5, "loss", "(I)I"⟩
abbrev cX5_pass : ByteArray := prog_7_method_11_code
def yX5_pass : MethodName := ⟨RX5, "pass", "()V"⟩
abbrev cX5_passAll : ByteArray := prog_7_method_12_code
def yX5_passAll : MethodName := ⟨RX5, "passAll", "(I)V"⟩
abbrev cX5_lacking : ByteArray := prog_7_method_13_code
def yX5_lacking : MethodName := ⟨RX5, "lacking", "(I)I"⟩
abbrev cX5_yards : ByteArray := prog_7_method_14_code
def yX5_yards : MethodName := ⟨RX5, "yards", "(II)I"⟩
def RX6 : String := "TopStreet$Tape"
def TX6 : u_T := fun k => match k with
  | 0 => ("TopStreet$Tape", "told", "LTopStreet$Street;", true)
  | 1 => ("TopStreet$Tape", "count", "I", false)
  | 2 => ("TopStreet$Tape", "at", "I", false)
  | 3 => ("TopStreet$Tape", "fault", "I", false)
  | _ => ("TopStreet$Tape", "bytes", "[I", true)
def tyX6 : Nat → FieldType := fun k => match k with
  | 0 => .object "TopStreet$Street"
  | 1 => .int
  | 2 => .int
  | 3 => .int
  | _ => .array .int
abbrev wsX60 : List Cond := u_ws RX6 TX6 5
theorem nmX6 : ∀ a, a < 5 → ∀ b, b < 5 → a ≠ b → (TX6 a).2.1 ≠ (TX6 b).2.1 := by decide +kernel
theorem tyX6_ok : ∀ k, k < 5 → parseFieldDescriptor (TX6 k).2.2.1 = some (tyX6 k) := by decide +kernel
abbrev cX6_init : ByteArray := prog_8_method_1_code
def yX6_init : MethodName := ⟨RX6, "<init>", "()V"⟩
abbrev cX6_add : ByteArray := prog_8_method_2_code
def yX6_add : MethodName := ⟨RX6, "add", "(I)I"⟩
abbrev cX6_read : ByteArray := prog_8_method_3_code
def yX6_read : MethodName := ⟨RX6, "read", "()V"⟩
abbrev cX6_readHouse : ByteArray := prog_8_method_4_code
def yX6_readHouse : MethodName := ⟨RX6, "readHouse", "()V"⟩
abbrev cX6_readSort : ByteArray := prog_8_method_5_code
def yX6_readSort : MethodName := ⟨RX6, "readSort", "()I"⟩
abbrev cX6_readSign : ByteArray := prog_8_method_6_code
def yX6_readSign : MethodName := ⟨RX6, "readSign", "(I)V"⟩
abbrev cX6_step : ByteArray := prog_8_method_7_code
def yX6_step : MethodName := ⟨RX6, "step", "(Z)V"⟩
abbrev cX6_readNumber : ByteArray := prog_8_method_8_code
def yX6_readNumber : MethodName := ⟨RX6, "readNumber", "(II)I"⟩
def RX7 : String := "TopStreet"
def TX7 : u_T := fun k => match k with
  | 0 => ("TopStreet", "rows", "[LTopStreet$Row;", true)
  | 1 => ("TopStreet", "tape", "LTopStreet$Tape;", true)
  | 2 => ("TopStreet", "now", "LTopStreet$Street;", true)
  | 3 => ("TopStreet", "images", "[LTopStreet$Street;", true)
  | 4 => ("TopStreet", "acts", "LTopStreet$Acts;", true)
  | 5 => ("TopStreet", "foretold", "LTopStreet$Foretold;", true)
  | 6 => ("TopStreet", "rounds", "LTopStreet$Round;", true)
  | 7 => ("TopStreet", "asks", "LTopStreet$Asks;", true)
  | 8 => ("TopStreet", "latestFault", "I", false)
  | _ => ("TopStreet", "latestFinding", "I", false)
def tyX7 : Nat → FieldType := fun k => match k with
  | 0 => .array (.object "TopStreet$Row")
  | 1 => .object "TopStreet$Tape"
  | 2 => .object "TopStreet$Street"
  | 3 => .array (.object "TopStreet$Street")
  | 4 => .object "TopStreet$Acts"
  | 5 => .object "TopStreet$Foretold"
  | 6 => .object "TopStreet$Round"
  | 7 => .object "TopStreet$Asks"
  | 8 => .int
  | _ => .int
abbrev wsX70 : List Cond := u_ws RX7 TX7 10
theorem nmX7 : ∀ a, a < 10 → ∀ b, b < 10 → a ≠ b → (TX7 a).2.1 ≠ (TX7 b).2.1 := by decide +kernel
theorem tyX7_ok : ∀ k, k < 10 → parseFieldDescriptor (TX7 k).2.2.1 = some (tyX7 k) := by decide +kernel
abbrev cX7_init : ByteArray := prog_1_method_1_code
def yX7_init : MethodName := ⟨RX7, "<init>", "()V"⟩
abbrev cX7_row : ByteArray := prog_1_method_2_code
def yX7_row : MethodName := ⟨RX7, "row", "(III)I"⟩
abbrev cX7_set : ByteArray := prog_1_method_3_code
def yX7_set : MethodName := ⟨RX7, "set", "(III)I"⟩
abbrev cX7_copy : ByteArray := prog_1_method_4_code
def yX7_copy : MethodName := ⟨RX7, "copy", "(IIIII)I"⟩
abbrev cX7_drop : ByteArray := prog_1_method_5_code
def yX7_drop : MethodName := ⟨RX7, "drop", "(I)I"⟩
abbrev cX7_feed : ByteArray := prog_1_method_6_code
def yX7_feed : MethodName := ⟨RX7, "feed", "(I)I"⟩
abbrev cX7_street : ByteArray := prog_1_method_7_code
def yX7_street : MethodName := ⟨RX7, "street", "()I"⟩
abbrev cX7_fault : ByteArray := prog_1_method_8_code
def yX7_fault : MethodName := ⟨RX7, "fault", "()I"⟩
abbrev cX7_undo : ByteArray := prog_1_method_9_code
def yX7_undo : MethodName := ⟨RX7, "undo", "()I"⟩
abbrev cX7_hours : ByteArray := prog_1_method_10_code
def yX7_hours : MethodName := ⟨RX7, "hours", "(I)I"⟩
abbrev cX7_lash : ByteArray := prog_1_method_11_code
def yX7_lash : MethodName := ⟨RX7, "lash", "(I)I"⟩
abbrev cX7_touch : ByteArray := prog_1_method_12_code
def yX7_touch : MethodName := ⟨RX7, "touch", "(II)I"⟩
abbrev cX7_putUp : ByteArray := prog_1_method_13_code
def yX7_putUp : MethodName := ⟨RX7, "putUp", "(I)I"⟩
abbrev cX7_house : ByteArray := prog_1_method_14_code
def yX7_house : MethodName := ⟨RX7, "house", "(II)I"⟩
abbrev cX7_stand : ByteArray := prog_1_method_15_code
def yX7_stand : MethodName := ⟨RX7, "stand", "(I)I"⟩
abbrev cX7_ahead : ByteArray := prog_1_method_16_code
def yX7_ahead : MethodName := ⟨RX7, "ahead", "(II)I"⟩
abbrev cX7_when : ByteArray := prog_1_method_17_code
def yX7_when : MethodName := ⟨RX7, "when", "(II)I"⟩
abbrev cX7_first : ByteArray := prog_1_method_18_code
def yX7_first : MethodName := ⟨RX7, "first", "(I)I"⟩
abbrev cX7_left : ByteArray := prog_1_method_19_code
def yX7_left : MethodName := ⟨RX7, "left", "(I)I"⟩
abbrev cX7_round : ByteArray := prog_1_method_20_code
def yX7_round : MethodName := ⟨RX7, "round", "(III)I"⟩
abbrev cX7_walls : ByteArray := prog_1_method_21_code
def yX7_walls : MethodName := ⟨RX7, "walls", "(II)I"⟩
abbrev cX7_steady : ByteArray := prog_1_method_22_code
def yX7_steady : MethodName := ⟨RX7, "steady", "(II)I"⟩
abbrev cX7_boys : ByteArray := prog_1_method_23_code
def yX7_boys : MethodName := ⟨RX7, "boys", "(II)I"⟩
abbrev cX7_string : ByteArray := prog_1_method_24_code
def yX7_string : MethodName := ⟨RX7, "string", "(II)I"⟩
abbrev cX7_who : ByteArray := prog_1_method_25_code
def yX7_who : MethodName := ⟨RX7, "who", "(IIIII)I"⟩
abbrev cX7_finger : ByteArray := prog_1_method_26_code
def yX7_finger : MethodName := ⟨RX7, "finger", "(IIII)I"⟩
abbrev cX7_lashes : ByteArray := prog_1_method_27_code
def yX7_lashes : MethodName := ⟨RX7, "lashes", "(IIIII)I"⟩
abbrev cX7_crack : ByteArray := prog_1_method_28_code
def yX7_crack : MethodName := ⟨RX7, "crack", "(IIII)J"⟩
abbrev cX7_drawn : ByteArray := prog_1_method_29_code
def yX7_drawn : MethodName := ⟨RX7, "drawn", "(III)I"⟩
abbrev cX7_image : ByteArray := prog_1_method_30_code
def yX7_image : MethodName := ⟨RX7, "image", "(I)I"⟩
abbrev cX7_restore : ByteArray := prog_1_method_31_code
def yX7_restore : MethodName := ⟨RX7, "restore", "(I)I"⟩
abbrev cX7_kind : ByteArray := prog_1_method_32_code
def yX7_kind : MethodName := ⟨RX7, "kind", "(I)I"⟩
abbrev cX7_as : ByteArray := prog_1_method_33_code
def yX7_as : MethodName := ⟨RX7, "as", "(II)I"⟩
abbrev cX7_ask : ByteArray := prog_1_method_34_code
def yX7_ask : MethodName := ⟨RX7, "ask", "(II)I"⟩
abbrev cX7_trace : ByteArray := prog_1_method_35_code
def yX7_trace : MethodName := ⟨RX7, "trace", "(I)I"⟩
abbrev cX7_count : ByteArray := prog_1_method_36_code
def yX7_count : MethodName := ⟨RX7, "count", "(I)I"⟩
abbrev cX7_status : ByteArray := prog_1_method_37_code
def yX7_status : MethodName := ⟨RX7, "status", "()I"⟩
abbrev cX7_within : ByteArray := prog_1_method_38_code
def yX7_within : MethodName := ⟨RX7, "within", "(III)Z"⟩
abbrev cX7_isRow : ByteArray := prog_1_method_39_code
def yX7_isRow : MethodName := ⟨RX7, "isRow", "(I)Z"⟩
abbrev cX7_isHouse : ByteArray := prog_1_method_40_code
def yX7_isHouse : MethodName := ⟨RX7, "isHouse", "(I)Z"⟩
abbrev cX7_noStreet : ByteArray := prog_1_method_41_code
def yX7_noStreet : MethodName := ⟨RX7, "noStreet", "()Z"⟩
abbrev cX7_found : ByteArray := prog_1_method_42_code
def yX7_found : MethodName := ⟨RX7, "found", "(I)I"⟩
abbrev cX7_fine : ByteArray := prog_1_method_43_code
def yX7_fine : MethodName := ⟨RX7, "fine", "(I)I"⟩
abbrev cX7_rowsThere : ByteArray := prog_1_method_44_code
def yX7_rowsThere : MethodName := ⟨RX7, "rowsThere", "()I"⟩
abbrev cX7_copyFinding : ByteArray := prog_1_method_45_code
def yX7_copyFinding : MethodName := ⟨RX7, "copyFinding", "(LTopStreet$Row;ILTopStreet$Row;II)I"⟩
abbrev cX7_isOfKind : ByteArray := prog_1_method_46_code
def yX7_isOfKind : MethodName := ⟨RX7, "isOfKind", "(II)Z"⟩
def RX8 : String := "TopStreetModel"
def TX8 : u_T := fun k => match k with
  | 0 => ("TopStreetModel", "lanes", "[I", true)
  | 1 => ("TopStreetModel", "sizes", "[I", true)
  | 2 => ("TopStreetModel", "items", "[I", true)
  | 3 => ("TopStreetModel", "status", "I", false)
  | 4 => ("TopStreetModel", "isThere", "Z", false)
  | 5 => ("TopStreetModel", "st", "[I", true)
  | 6 => ("TopStreetModel", "moved", "[I", true)
  | 7 => ("TopStreetModel", "tape", "[I", true)
  | 8 => ("TopStreetModel", "bytes", "I", false)
  | 9 => ("TopStreetModel", "latest", "I", false)
  | 10 => ("TopStreetModel", "place", "I", false)
  | 11 => ("TopStreetModel", "token", "I", false)
  | 12 => ("TopStreetModel", "value", "I", false)
  | 13 => ("TopStreetModel", "begins", "I", false)
  | 14 => ("TopStreetModel", "wrong", "I", false)
  | 15 => ("TopStreetModel", "read", "[I", true)
  | 16 => ("TopStreetModel", "acts", "[I", true)
  | 17 => ("TopStreetModel", "actMany", "I", false)
  | 18 => ("TopStreetModel", "aside", "[I", true)
  | 19 => ("TopStreetModel", "comes", "[I", true)
  | 20 => ("TopStreetModel", "isKept", "[Z", true)
  | 21 => ("TopStreetModel", "kept", "[I", true)
  | 22 => ("TopStreetModel", "trace", "[I", true)
  | _ => ("TopStreetModel", "traced", "I", false)
def tyX8 : Nat → FieldType := fun k => match k with
  | 0 => .array .int
  | 1 => .array .int
  | 2 => .array .int
  | 3 => .int
  | 4 => .boolean
  | 5 => .array .int
  | 6 => .array .int
  | 7 => .array .int
  | 8 => .int
  | 9 => .int
  | 10 => .int
  | 11 => .int
  | 12 => .int
  | 13 => .int
  | 14 => .int
  | 15 => .array .int
  | 16 => .array .int
  | 17 => .int
  | 18 => .array .int
  | 19 => .array .int
  | 20 => .array .boolean
  | 21 => .array .int
  | 22 => .array .int
  | _ => .int
abbrev wsX80 : List Cond := u_ws RX8 TX8 24
theorem nmX8 : ∀ a, a < 24 → ∀ b, b < 24 → a ≠ b → (TX8 a).2.1 ≠ (TX8 b).2.1 := by decide +kernel
theorem tyX8_ok : ∀ k, k < 24 → parseFieldDescriptor (TX8 k).2.2.1 = some (tyX8 k) := by decide +kernel
abbrev cX8_init : ByteArray := prog_10_method_1_code
def yX8_init : MethodName := ⟨RX8, "<init>", "()V"⟩
abbrev cX8_in : ByteArray := prog_10_method_2_code
def yX8_in : MethodName := ⟨RX8, "in", "(JJJ)Z"⟩
abbrev cX8_has : ByteArray := prog_10_method_3_code
def yX8_has : MethodName := ⟨RX8, "has", "(II)Z"⟩
abbrev cX8_ones : ByteArray := prog_10_method_4_code
def yX8_ones : MethodName := ⟨RX8, "ones", "(I)I"⟩
abbrev cX8_find : ByteArray := prog_10_method_5_code
def yX8_find : MethodName := ⟨RX8, "find", "(I)I"⟩
abbrev cX8_well : ByteArray := prog_10_method_6_code
def yX8_well : MethodName := ⟨RX8, "well", "(I)I"⟩
abbrev cX8_isRow : ByteArray := prog_10_method_7_code
def yX8_isRow : MethodName := ⟨RX8, "isRow", "(I)Z"⟩
abbrev cX8_row : ByteArray := prog_10_method_8_code
def yX8_row : MethodName := ⟨RX8, "row", "(III)I"⟩
abbrev cX8_asLane : ByteArray := prog_10_method_9_code
def yX8_asLane : MethodName := ⟨RX8, "asLane", "(II)I"⟩
abbrev cX8_set : ByteArray := prog_10_method_10_code
def yX8_set : MethodName := ⟨RX8, "set", "(III)I"⟩
abbrev cX8_copy : ByteArray := prog_10_method_11_code
def yX8_copy : MethodName := ⟨RX8, "copy", "(IIIII)I"⟩
abbrev cX8_drop : ByteArray := prog_10_method_12_code
def yX8_drop : MethodName := ⟨RX8, "drop", "(I)I"⟩
abbrev cX8_feed : ByteArray := prog_10_method_13_code
def yX8_feed : MethodName := ⟨RX8, "feed", "(I)I"⟩
abbrev cX8_nextToken : ByteArray := prog_10_method_14_code
def yX8_nextToken : MethodName := ⟨RX8, "nextToken", "()V"⟩
abbrev cX8_faults : ByteArray := prog_10_method_15_code
def yX8_faults : MethodName := ⟨RX8, "faults", "(I)Z"⟩
abbrev cX8_takes : ByteArray := prog_10_method_16_code
def yX8_takes : MethodName := ⟨RX8, "takes", "(I)Z"⟩
abbrev cX8_takesNumber : ByteArray := prog_10_method_17_code
def yX8_takesNumber : MethodName := ⟨RX8, "takesNumber", "(IIII)Z"⟩
abbrev cX8_kindBy : ByteArray := prog_10_method_18_code
def yX8_kindBy : MethodName := ⟨RX8, "kindBy", "(I)I"⟩
abbrev cX8_readHouse : ByteArray := prog_10_method_19_code
def yX8_readHouse : MethodName := ⟨RX8, "readHouse", "()Z"⟩
abbrev cX8_readStreet : ByteArray := prog_10_method_20_code
def yX8_readStreet : MethodName := ⟨RX8, "readStreet", "()Z"⟩
abbrev cX8_street : ByteArray := prog_10_method_21_code
def yX8_street : MethodName := ⟨RX8, "street", "()I"⟩
abbrev cX8_fault : ByteArray := prog_10_method_22_code
def yX8_fault : MethodName := ⟨RX8, "fault", "()I"⟩
abbrev cX8_isHouse : ByteArray := prog_10_method_23_code
def yX8_isHouse : MethodName := ⟨RX8, "isHouse", "(I)Z"⟩
abbrev cX8_stands : ByteArray := prog_10_method_24_code
def yX8_stands : MethodName := ⟨RX8, "stands", "(I)Z"⟩
abbrev cX8_leans : ByteArray := prog_10_method_25_code
def yX8_leans : MethodName := ⟨RX8, "leans", "(I)Z"⟩
abbrev cX8_touches : ByteArray := prog_10_method_26_code
def yX8_touches : MethodName := ⟨RX8, "touches", "(I)I"⟩
abbrev cX8_lossOf : ByteArray := prog_10_method_27_code
def yX8_lossOf : MethodName := ⟨RX8, "lossOf", "(I)I"⟩
abbrev cX8_loses : ByteArray := prog_10_method_28_code
def yX8_loses : MethodName := ⟨RX8, "loses", "(II)V"⟩
abbrev cX8_standing : ByteArray := prog_10_method_29_code
def yX8_standing : MethodName := ⟨RX8, "standing", "()I"⟩
abbrev cX8_oneHour : ByteArray := prog_10_method_30_code
def yX8_oneHour : MethodName := ⟨RX8, "oneHour", "()V"⟩
abbrev cX8_lashBy : ByteArray := prog_10_method_31_code
def yX8_lashBy : MethodName := ⟨RX8, "lashBy", "(II)V"⟩
abbrev cX8_spinOf : ByteArray := prog_10_method_32_code
def yX8_spinOf : MethodName := ⟨RX8, "spinOf", "(II)I"⟩
abbrev cX8_note : ByteArray := prog_10_method_33_code
def yX8_note : MethodName := ⟨RX8, "note", "()V"⟩
abbrev cX8_undo : ByteArray := prog_10_method_34_code
def yX8_undo : MethodName := ⟨RX8, "undo", "()I"⟩
abbrev cX8_hours : ByteArray := prog_10_method_35_code
def yX8_hours : MethodName := ⟨RX8, "hours", "(I)I"⟩
abbrev cX8_lash : ByteArray := prog_10_method_36_code
def yX8_lash : MethodName := ⟨RX8, "lash", "(I)I"⟩
abbrev cX8_touch : ByteArray := prog_10_method_37_code
def yX8_touch : MethodName := ⟨RX8, "touch", "(II)I"⟩
abbrev cX8_putUp : ByteArray := prog_10_method_38_code
def yX8_putUp : MethodName := ⟨RX8, "putUp", "(I)I"⟩
abbrev cX8_house : ByteArray := prog_10_method_39_code
def yX8_house : MethodName := ⟨RX8, "house", "(II)I"⟩
abbrev cX8_leaning : ByteArray := prog_10_method_40_code
def yX8_leaning : MethodName := ⟨RX8, "leaning", "()I"⟩
abbrev cX8_stand : ByteArray := prog_10_method_41_code
def yX8_stand : MethodName := ⟨RX8, "stand", "(I)I"⟩
abbrev cX8_putAside : ByteArray := prog_10_method_42_code
def yX8_putAside : MethodName := ⟨RX8, "putAside", "()V"⟩
abbrev cX8_takeBack : ByteArray := prog_10_method_43_code
def yX8_takeBack : MethodName := ⟨RX8, "takeBack", "()V"⟩
abbrev cX8_goOn : ByteArray := prog_10_method_44_code
def yX8_goOn : MethodName := ⟨RX8, "goOn", "(I)V"⟩
abbrev cX8_leftBehind : ByteArray := prog_10_method_45_code
def yX8_leftBehind : MethodName := ⟨RX8, "leftBehind", "(I)I"⟩
abbrev cX8_isWhat : ByteArray := prog_10_method_46_code
def yX8_isWhat : MethodName := ⟨RX8, "isWhat", "(I)Z"⟩
abbrev cX8_ahead : ByteArray := prog_10_method_47_code
def yX8_ahead : MethodName := ⟨RX8, "ahead", "(II)I"⟩
abbrev cX8_isHow : ByteArray := prog_10_method_48_code
def yX8_isHow : MethodName := ⟨RX8, "isHow", "(II)Z"⟩
abbrev cX8_when : ByteArray := prog_10_method_49_code
def yX8_when : MethodName := ⟨RX8, "when", "(II)I"⟩
abbrev cX8_least : ByteArray := prog_10_method_50_code
def yX8_least : MethodName := ⟨RX8, "least", "(I)I"⟩
abbrev cX8_first : ByteArray := prog_10_method_51_code
def yX8_first : MethodName := ⟨RX8, "first", "(I)I"⟩
abbrev cX8_left : ByteArray := prog_10_method_52_code
def yX8_left : MethodName := ⟨RX8, "left", "(I)I"⟩
abbrev cX8_leastSpin : ByteArray := prog_10_method_53_code
def yX8_leastSpin : MethodName := ⟨RX8, "leastSpin", "()I"⟩
abbrev cX8_goesRound : ByteArray := prog_10_method_54_code
def yX8_goesRound : MethodName := ⟨RX8, "goesRound", "(IIII)Z"⟩
abbrev cX8_round : ByteArray := prog_10_method_55_code
def yX8_round : MethodName := ⟨RX8, "round", "(III)I"⟩
abbrev cX8_walls : ByteArray := prog_10_method_56_code
def yX8_walls : MethodName := ⟨RX8, "walls", "(II)I"⟩
abbrev cX8_steady : ByteArray := prog_10_method_57_code
def yX8_steady : MethodName := ⟨RX8, "steady", "(II)I"⟩
abbrev cX8_lashTurns : ByteArray := prog_10_method_58_code
def yX8_lashTurns : MethodName := ⟨RX8, "lashTurns", "(II)V"⟩
abbrev cX8_boys : ByteArray := prog_10_method_59_code
def yX8_boys : MethodName := ⟨RX8, "boys", "(II)I"⟩
abbrev cX8_lackOf : ByteArray := prog_10_method_60_code
def yX8_lackOf : MethodName := ⟨RX8, "lackOf", "(I)I"⟩
abbrev cX8_string : ByteArray := prog_10_method_61_code
def yX8_string : MethodName := ⟨RX8, "string", "(II)I"⟩
abbrev cX8_lacks : ByteArray := prog_10_method_62_code
def yX8_lacks : MethodName := ⟨RX8, "lacks", "(III)I"⟩
abbrev cX8_isSo : ByteArray := prog_10_method_63_code
def yX8_isSo : MethodName := ⟨RX8, "isSo", "(III)Z"⟩
abbrev cX8_spinsBy : ByteArray := prog_10_method_64_code
def yX8_spinsBy : MethodName := ⟨RX8, "spinsBy", "(IIII)I"⟩
abbrev cX8_who : ByteArray := prog_10_method_65_code
def yX8_who : MethodName := ⟨RX8, "who", "(IIIII)I"⟩
abbrev cX8_finger : ByteArray := prog_10_method_66_code
def yX8_finger : MethodName := ⟨RX8, "finger", "(IIII)I"⟩
abbrev cX8_lashes : ByteArray := prog_10_method_67_code
def yX8_lashes : MethodName := ⟨RX8, "lashes", "(IIIII)I"⟩
abbrev cX8_crack : ByteArray := prog_10_method_68_code
def yX8_crack : MethodName := ⟨RX8, "crack", "(IIII)J"⟩
abbrev cX8_drawn : ByteArray := prog_10_method_69_code
def yX8_drawn : MethodName := ⟨RX8, "drawn", "(III)I"⟩
abbrev cX8_image : ByteArray := prog_10_method_70_code
def yX8_image : MethodName := ⟨RX8, "image", "(I)I"⟩
abbrev cX8_restore : ByteArray := prog_10_method_71_code
def yX8_restore : MethodName := ⟨RX8, "restore", "(I)I"⟩
abbrev cX8_kind : ByteArray := prog_10_method_72_code
def yX8_kind : MethodName := ⟨RX8, "kind", "(I)I"⟩
abbrev cX8_isKind : ByteArray := prog_10_method_73_code
def yX8_isKind : MethodName := ⟨RX8, "isKind", "(II)Z"⟩
abbrev cX8_as : ByteArray := prog_10_method_74_code
def yX8_as : MethodName := ⟨RX8, "as", "(II)I"⟩
abbrev cX8_begin : ByteArray := prog_10_method_75_code
def yX8_begin : MethodName := ⟨RX8, "begin", "(I)V"⟩
abbrev cX8_lent : ByteArray := prog_10_method_76_code
def yX8_lent : MethodName := ⟨RX8, "lent", "(II)I"⟩
abbrev cX8_woodMark : ByteArray := prog_10_method_77_code
def yX8_woodMark : MethodName := ⟨RX8, "woodMark", "(I)I"⟩
abbrev cX8_parishSize : ByteArray := prog_10_method_78_code
def yX8_parishSize : MethodName := ⟨RX8, "parishSize", "(I)I"⟩
abbrev cX8_sizeOfParish : ByteArray := prog_10_method_79_code
def yX8_sizeOfParish : MethodName := ⟨RX8, "sizeOfParish", "(I)I"⟩
abbrev cX8_markOf : ByteArray := prog_10_method_80_code
def yX8_markOf : MethodName := ⟨RX8, "markOf", "(I)I"⟩
abbrev cX8_woodSize : ByteArray := prog_10_method_81_code
def yX8_woodSize : MethodName := ⟨RX8, "woodSize", "(I)I"⟩
abbrev cX8_sizeOf : ByteArray := prog_10_method_82_code
def yX8_sizeOf : MethodName := ⟨RX8, "sizeOf", "(I)I"⟩
abbrev cX8_ask : ByteArray := prog_10_method_83_code
def yX8_ask : MethodName := ⟨RX8, "ask", "(II)I"⟩
abbrev cX8_trace : ByteArray := prog_10_method_84_code
def yX8_trace : MethodName := ⟨RX8, "trace", "(I)I"⟩
abbrev cX8_count : ByteArray := prog_10_method_85_code
def yX8_count : MethodName := ⟨RX8, "count", "(I)I"⟩
abbrev cX8_status : ByteArray := prog_10_method_86_code
def yX8_status : MethodName := ⟨RX8, "status", "()I"⟩
def RJ11 : String := "java/lang/Character"
def TJ11 : u_T := fun k => match k with
  | _ => ("", "", "", false)
def tyJ11 : Nat → FieldType := fun k => match k with
  | _ => .int
abbrev wsJ110 : List Cond := u_ws RJ11 TJ11 0
theorem nmJ11 : ∀ a, a < 0 → ∀ b, b < 0 → a ≠ b → (TJ11 a).2.1 ≠ (TJ11 b).2.1 := by decide +kernel
theorem tyJ11_ok : ∀ k, k < 0 → parseFieldDescriptor (TJ11 k).2.2.1 = some (tyJ11 k) := by decide +kernel
abbrev cJ11_isValidCodePoint_9a6ad : ByteArray := prog_11_method_11_code
def yJ11_isValidCodePoint_9a6ad : MethodName := ⟨RJ11, "isValidCodePoint", "(I)Z"⟩
abbrev cJ11_highSurrogate_5068e : ByteArray := prog_11_method_28_code
def yJ11_highSurrogate_5068e : MethodName := ⟨RJ11, "highSurrogate", "(I)C"⟩
abbrev cJ11_lowSurrogate_5068e : ByteArray := prog_11_method_29_code
def yJ11_lowSurrogate_5068e : MethodName := ⟨RJ11, "lowSurrogate", "(I)C"⟩
def RJ6 : String := "java/lang/Integer"
def TJ6 : u_T := fun k => match k with
  | _ => ("", "", "", false)
def tyJ6 : Nat → FieldType := fun k => match k with
  | _ => .int
abbrev wsJ60 : List Cond := u_ws RJ6 TJ6 0
theorem nmJ6 : ∀ a, a < 0 → ∀ b, b < 0 → a ≠ b → (TJ6 a).2.1 ≠ (TJ6 b).2.1 := by decide +kernel
theorem tyJ6_ok : ∀ k, k < 0 → parseFieldDescriptor (TJ6 k).2.2.1 = some (tyJ6 k) := by decide +kernel
abbrev cJ6_bitCount_0f7a4 : ByteArray := prog_12_method_49_code
def yJ6_bitCount_0f7a4 : MethodName := ⟨RJ6, "bitCount", "(I)I"⟩
def RJ9 : String := "java/lang/Math"
def TJ9 : u_T := fun k => match k with
  | _ => ("", "", "", false)
def tyJ9 : Nat → FieldType := fun k => match k with
  | _ => .int
abbrev wsJ90 : List Cond := u_ws RJ9 TJ9 0
theorem nmJ9 : ∀ a, a < 0 → ∀ b, b < 0 → a ≠ b → (TJ9 a).2.1 ≠ (TJ9 b).2.1 := by decide +kernel
theorem tyJ9_ok : ∀ k, k < 0 → parseFieldDescriptor (TJ9 k).2.2.1 = some (tyJ9 k) := by decide +kernel
abbrev cJ9_max_7cf53 : ByteArray := prog_13_method_65_code
def yJ9_max_7cf53 : MethodName := ⟨RJ9, "max", "(II)I"⟩
abbrev cJ9_max_f86c9 : ByteArray := prog_13_method_66_code
def yJ9_max_f86c9 : MethodName := ⟨RJ9, "max", "(JJ)J"⟩
abbrev cJ9_min_7cf53 : ByteArray := prog_13_method_69_code
def yJ9_min_7cf53 : MethodName := ⟨RJ9, "min", "(II)I"⟩
def RJ0 : String := "java/lang/String"
def TJ0 : u_T := fun k => match k with
  | _ => ("", "", "", false)
def tyJ0 : Nat → FieldType := fun k => match k with
  | _ => .int
abbrev wsJ00 : List Cond := u_ws RJ0 TJ0 0
theorem nmJ0 : ∀ a, a < 0 → ∀ b, b < 0 → a ≠ b → (TJ0 a).2.1 ≠ (TJ0 b).2.1 := by decide +kernel
theorem tyJ0_ok : ∀ k, k < 0 → parseFieldDescriptor (TJ0 k).2.2.1 = some (tyJ0 k) := by decide +kernel
abbrev cJ0_length_8abf5 : ByteArray := prog_14_method_54_code
def yJ0_length_8abf5 : MethodName := ⟨RJ0, "length", "()I"⟩
abbrev cJ0_indexOf_0f7a4 : ByteArray := prog_14_method_79_code
def yJ0_indexOf_0f7a4 : MethodName := ⟨RJ0, "indexOf", "(I)I"⟩
abbrev cJ0_indexOf_7cf53 : ByteArray := prog_14_method_80_code
def yJ0_indexOf_7cf53 : MethodName := ⟨RJ0, "indexOf", "(II)I"⟩
abbrev cJ0_coder_7d493 : ByteArray := prog_14_method_152_code
def yJ0_coder_7d493 : MethodName := ⟨RJ0, "coder", "()B"⟩
abbrev cJ0_isLatin1_aae02 : ByteArray := prog_14_method_154_code
def yJ0_isLatin1_aae02 : MethodName := ⟨RJ0, "isLatin1", "()Z"⟩
abbrev cJ0_checkBoundsBeginEnd_23922 : ByteArray := prog_14_method_158_code
def yJ0_checkBoundsBeginEnd_23922 : MethodName := ⟨RJ0, "checkBoundsBeginEnd", "(III)V"⟩
def RJ1 : String := "java/lang/StringLatin1"
def TJ1 : u_T := fun k => match k with
  | _ => ("", "", "", false)
def tyJ1 : Nat → FieldType := fun k => match k with
  | _ => .int
abbrev wsJ10 : List Cond := u_ws RJ1 TJ1 0
theorem nmJ1 : ∀ a, a < 0 → ∀ b, b < 0 → a ≠ b → (TJ1 a).2.1 ≠ (TJ1 b).2.1 := by decide +kernel
theorem tyJ1_ok : ∀ k, k < 0 → parseFieldDescriptor (TJ1 k).2.2.1 = some (tyJ1 k) := by decide +kernel
abbrev cJ1_canEncode_9a6ad : ByteArray := prog_15_method_4_code
def yJ1_canEncode_9a6ad : MethodName := ⟨RJ1, "canEncode", "(I)Z"⟩
abbrev cJ1_indexOf_4cfef : ByteArray := prog_15_method_22_code
def yJ1_indexOf_4cfef : MethodName := ⟨RJ1, "indexOf", "([BIII)I"⟩
abbrev cJ1_indexOfChar_4cfef : ByteArray := prog_15_method_23_code
def yJ1_indexOfChar_4cfef : MethodName := ⟨RJ1, "indexOfChar", "([BIII)I"⟩
def RJ2 : String := "java/lang/StringUTF16"
def TJ2 : u_T := fun k => match k with
  | _ => ("", "", "", false)
def tyJ2 : Nat → FieldType := fun k => match k with
  | _ => .int
abbrev wsJ20 : List Cond := u_ws RJ2 TJ2 0
theorem nmJ2 : ∀ a, a < 0 → ∀ b, b < 0 → a ≠ b → (TJ2 a).2.1 ≠ (TJ2 b).2.1 := by decide +kernel
theorem tyJ2_ok : ∀ k, k < 0 → parseFieldDescriptor (TJ2 k).2.2.1 = some (tyJ2 k) := by decide +kernel
abbrev cJ2_getChar_3b067 : ByteArray := prog_16_method_5_code
def yJ2_getChar_3b067 : MethodName := ⟨RJ2, "getChar", "([BI)C"⟩
abbrev cJ2_length_9d52b : ByteArray := prog_16_method_6_code
def yJ2_length_9d52b : MethodName := ⟨RJ2, "length", "([B)I"⟩
abbrev cJ2_indexOf_4cfef : ByteArray := prog_16_method_40_code
def yJ2_indexOf_4cfef : MethodName := ⟨RJ2, "indexOf", "([BIII)I"⟩
abbrev cJ2_indexOfChar_4cfef : ByteArray := prog_16_method_47_code
def yJ2_indexOfChar_4cfef : MethodName := ⟨RJ2, "indexOfChar", "([BIII)I"⟩
abbrev cJ2_indexOfCharUnsafe_4cfef : ByteArray := prog_16_method_48_code
def yJ2_indexOfCharUnsafe_4cfef : MethodName := ⟨RJ2, "indexOfCharUnsafe", "([BIII)I"⟩
abbrev cJ2_indexOfSupplementary_4cfef : ByteArray := prog_16_method_49_code
def yJ2_indexOfSupplementary_4cfef : MethodName := ⟨RJ2, "indexOfSupplementary", "([BIII)I"⟩
abbrev cJ2_checkBoundsBeginEnd_d044e : ByteArray := prog_16_method_93_code
def yJ2_checkBoundsBeginEnd_d044e : MethodName := ⟨RJ2, "checkBoundsBeginEnd", "(II[B)V"⟩
def RJ10 : String := "java/lang/System"
def TJ10 : u_T := fun k => match k with
  | _ => ("", "", "", false)
def tyJ10 : Nat → FieldType := fun k => match k with
  | _ => .int
abbrev wsJ100 : List Cond := u_ws RJ10 TJ10 0
theorem nmJ10 : ∀ a, a < 0 → ∀ b, b < 0 → a ≠ b → (TJ10 a).2.1 ≠ (TJ10 b).2.1 := by decide +kernel
theorem tyJ10_ok : ∀ k, k < 0 → parseFieldDescriptor (TJ10 k).2.2.1 = some (tyJ10 k) := by decide +kernel
def RJ3 : String := "jdk/internal/util/Preconditions"
def TJ3 : u_T := fun k => match k with
  | _ => ("", "", "", false)
def tyJ3 : Nat → FieldType := fun k => match k with
  | _ => .int
abbrev wsJ30 : List Cond := u_ws RJ3 TJ3 0
theorem nmJ3 : ∀ a, a < 0 → ∀ b, b < 0 → a ≠ b → (TJ3 a).2.1 ≠ (TJ3 b).2.1 := by decide +kernel
theorem tyJ3_ok : ∀ k, k < 0 → parseFieldDescriptor (TJ3 k).2.2.1 = some (tyJ3 k) := by decide +kernel
abbrev cJ3_checkFromToIndex_8c36e : ByteArray := prog_18_method_12_code
def yJ3_checkFromToIndex_8c36e : MethodName := ⟨RJ3, "checkFromToIndex", "(IIILjava/util/function/BiFunction;)I"⟩
def RL : String := "TopStreetLaw"
abbrev cL_law : ByteArray := code
def yL_law : MethodName := ⟨RL, "law", "([I)Z"⟩
end
section
/-! THE BASE: an abstract heap of numbered places over the kit's worlds; one judgement R for a walk inside a method, one contract C for a method. A place k lies at the address base + k. -/
def TS : List Cond := lw_tbl.filter goodWord
theorem TS_good : GoodIn TS TS := fun _ h => ⟨h, good_of_word (List.mem_filter.mp h).2⟩
/-- a word of the tables, by its place -/
theorem TSi {w : Cond} (i : Nat) (h : lw_tbl[i]? = some w) (g : goodWord w = true) : w ∈ TS := List.mem_filter.mpr ⟨List.mem_of_getElem? h, g⟩
abbrev AH : Type := List (Nat × List Value)
abbrev AL : Type := List (Nat × Value)
/-- flag (sizes are known), base, classes, array classes, the literal's address and its bytes' -/
abbrev EE : Type := Bool × Nat × va_G × (ClassId × ClassId × ClassId × ClassId) × Nat × Nat
abbrev cls0 : List vw_C := [(RX0, TX0, 3), (RX1, TX1, 6), (RX2, TX2, 4), (RX3, TX3, 5), (RX4, TX4, 4), (RX5, TX5, 8), (RX6, TX6, 5), (RX7, TX7, 10), (RX8, TX8, 24)]
/-- a place below 1000 is a cell of ours; 1000 is the literal, 1001 its bytes; from 1002 on: an address as it is -/
def pa (E : EE) (k : Nat) : Nat := if k < 1000 then E.2.1 + k else if k = 1000 then E.2.2.2.2.1 else if k = 1001 then E.2.2.2.2.2 else k - 1002
def tr (b : EE) (v : Value) : Value := match v with
  | .ref k => .ref (pa b k)
  | w => w
def iv (v : Value) : Int32 := match v with
  | .int x => x
  | _ => 0
def rv (b : EE) (v : Value) : Option Nat := match v with
  | .ref k => some (pa b k)
  | _ => none
def cE (E : EE) (c : Nat × List Value) : va_E :=
  if c.1 < 20 then .inr (c.1, c.2.map (tr E))
  else if c.1 = 20 then .inl (E.2.2.2.1.1, c.2.length, .inl (fun j => iv (c.2.getD j .null)))
  else if c.1 = 21 then .inl (E.2.2.2.1.2.1, c.2.length, .inl (fun j => iv (c.2.getD j .null)))
  else if c.1 = 22 then .inl (E.2.2.2.1.2.2.1, c.2.length, .inr (.inr (.inr (.inr (fun j => rv E (c.2.getD j .null))))))
  else .inl (E.2.2.2.1.2.2.2, c.2.length, .inr (.inr (.inr (.inr (fun j => rv E (c.2.getD j .null))))))
def conc (E : EE) (h : AH) : va_W := h.mapIdx (fun k c => (E.2.1 + k, cE E c))
abbrev tysE (E : EE) : List (ClassId × FieldType) := [(E.2.2.2.1.1, .int), (E.2.2.2.1.2.1, .boolean), (E.2.2.2.1.2.2.1, .object RX5), (E.2.2.2.1.2.2.2, .object RX4)]
def mine (E : EE) : Nat → Prop := fun q => E.2.1 ≤ q
def RepH (E : EE) (h : AH) (H : Heap) : Prop := (E.1 = true → H.size = E.2.1 + h.length) ∧ h.length ≤ 1000 ∧ va_P E.2.2.1 cls0 (conc E h) H
theorem conc_at {E : EE} {h : AH} {k : Nat} {c : Nat × List Value} (hk : h[k]? = some c) : (conc E h)[k]? = some (E.2.1 + k, cE E c) := by
  unfold conc
  rw [List.getElem?_mapIdx, hk]
  rfl
theorem conc_D {E : EE} (h : AH) : va_D (mine E) (conc E h) := by
  refine ⟨fun i j p q hi hj e => ?_, fun k q hk => ?_⟩
  · unfold conc at hi hj
    rw [List.getElem?_mapIdx] at hi hj
    cases h1 : h[i]? with
    | none => rw [h1] at hi; cases hi
    | some c1 =>
      cases h2 : h[j]? with
      | none => rw [h2] at hj; cases hj
      | some c2 =>
        rw [h1] at hi
        rw [h2] at hj
        cases hi
        cases hj
        exact Nat.add_left_cancel e
  · unfold conc at hk
    rw [List.getElem?_mapIdx] at hk
    cases h1 : h[k]? with
    | none => rw [h1] at hk; cases hk
    | some c1 =>
      rw [h1] at hk
      cases hk
      exact Nat.le_add_right _ _
theorem conc_set {E : EE} (h : AH) (k : Nat) (c : Nat × List Value) : (conc E h).set k (E.2.1 + k, cE E c) = conc E (h.set k c) := by
  unfold conc
  apply List.ext_getElem?
  intro i
  simp only [List.getElem?_set, List.getElem?_mapIdx, List.length_mapIdx]
  by_cases e : k = i
  · subst e
    by_cases hl : k < h.length
    · simp [hl]
    · simp [hl]
  · simp [e]
theorem conc_push {E : EE} (h : AH) (c : Nat × List Value) : conc E h ++ [(E.2.1 + h.length, cE E c)] = conc E (h ++ [c]) := by
  unfold conc
  rw [List.mapIdx_append]
  simp
theorem pa_lt {b : EE} {k : Nat} (h : k < 1000) : pa b k = b.2.1 + k := if_pos h
theorem pa_at {h : AH} {b : EE} {k : Nat} {c : Nat × List Value} (hl : h.length ≤ 1000) (hk : h[k]? = some c) : pa b k = b.2.1 + k := pa_lt (Nat.lt_of_lt_of_le (List.getElem?_eq_some_iff.mp hk).1 hl)
theorem tr_cat (b : EE) (v : Value) : (tr b v).category = v.category := by cases v <;> rfl
theorem tr_int (b : EE) (x : Int32) : tr b (.int x) = .int x := rfl
theorem tr_long (b : EE) (x : Int64) : tr b (.long x) = .long x := rfl
theorem rv_tr (b : EE) {v : Value} (h : v = .null ∨ ∃ k, v = .ref k) : va_rf (rv b v) = tr b v := by
  rcases h with rfl | ⟨k, rfl⟩ <;> rfl
/-- the locals -/
def lk (L : AL) (i : Nat) : Option Value := match L with
  | [] => none
  | q :: t => if q.1 = i then some q.2 else lk t i
def trL (b : EE) (L : AL) : AL := L.map fun q => (q.1, tr b q.2)
theorem lk_has {ls : Array Slot} {b : EE} {n i : Nat} {L : AL} {v : Value} (h : lv_has ls n (trL b L)) (hk : lk L i = some v) : ls[i]? = some (.val (tr b v)) := by
  have key : ∀ L : AL, lk L i = some v → (i, tr b v) ∈ trL b L := by
    intro L
    induction L with
    | nil => intro hk; cases hk
    | cons q t ih =>
      intro hk
      unfold lk at hk
      by_cases e : q.1 = i
      · rw [if_pos e] at hk
        cases hk
        subst e
        exact List.mem_cons_self
      · rw [if_neg e] at hk
        exact List.mem_cons_of_mem _ (ih hk)
  exact h.2.2 _ (key L hk)
abbrev sto1 (i : Nat) (v : Value) (L : AL) : AL := (i, v) :: L.filter (fun q => !(q.1 == i) && !(q.1 + 1 == i && q.2.category == 2))
abbrev sto2 (i : Nat) (v : Value) (L : AL) : AL := (i, v) :: L.filter (fun q => !(q.1 == i) && (!(q.1 == i + 1) && !(q.1 + 1 == i && q.2.category == 2)))
theorem sto1_tr (b : EE) (i : Nat) (v : Value) (L : AL) : (i, tr b v) :: (trL b L).filter (fun q => !(q.1 == i) && !(q.1 + 1 == i && q.2.category == 2)) = trL b (sto1 i v L) := by
  unfold trL sto1
  rw [List.map_cons, List.filter_map]
  congr 3
  funext q
  simp [tr_cat]
theorem sto2_tr (b : EE) (i : Nat) (v : Value) (L : AL) : (i, tr b v) :: (trL b L).filter (fun q => !(q.1 == i) && (!(q.1 == i + 1) && !(q.1 + 1 == i && q.2.category == 2))) = trL b (sto2 i v L) := by
  unfold trL sto2
  rw [List.map_cons, List.filter_map]
  congr 3
  funext q
  simp [tr_cat]
theorem lv_args_tr (b : EE) : ∀ (vs : List Value) (i : Nat), lv_args i (vs.map (tr b)) = trL b (lv_args i vs) := by
  intro vs
  induction vs with
  | nil => intro i; rfl
  | cons v vs ih =>
    intro i
    show (i, tr b v) :: lv_args (if (tr b v).category = 2 then i + 2 else i + 1) (vs.map (tr b)) = _
    rw [tr_cat, ih]
    rfl
/-- what holds of the tables and of the cells below the base -/
abbrev NW : Type := String × Nat × MethodName × String
def nestL : List NW := [(RX7, 17, yX6_init, RX7), (RX7, 24, yX5_init, RX7), (RX7, 42, yX2_init, RX7), (RX7, 56, yX1_init, RX7), (RX7, 61, yX4_init, RX7), (RX7, 237, yX2_play, RX7), (RX0, 17, yX5_init, RX7), (RX2, 11, yX5_init, RX7), (RX3, 24, yX5_init, RX7), (RX3, 46, yX7_within, RX7), (RX6, 11, yX5_init, RX7), (RX6, 72, yX7_within, RX7)]
def SO (E : EE) (U : State) (H : Heap) : Prop := va_Z "java/lang/String" "COMPACT_STRINGS" "Z" (.int 1) (mine E) U H ∧ vk_S 1 [5] [[119, 99, 115, 112, 107]] (fun _ => E.2.2.2.2.1) (fun _ => E.2.2.2.2.2) (mine E) U H ∧ vk_R RX6 60 "wcspk" E.2.2.2.2.1 U
def RepK (E : EE) (U : State) : Prop := va_K E.2.2.1 cls0 (tysE E) U ∧ (∀ q ∈ nestL, va_Nw (.methodLinkNest q.1 q.2.1 q.2.2.1 q.2.2.2) U) ∧ SO E U U.heap
theorem RepK.go {E : EE} {s U : State} (h : RepK E s) (hW : s.WarmedH U.vm) (hk : ∀ q : Nat, q < s.heap.size → ¬ mine E q → U.heap[q]? = s.heap[q]?) : RepK E U := by
  obtain ⟨h1, h2, h3, h4, h5⟩ := h
  exact ⟨va_K.moved hW.alike h1, fun q hq => va_Nw.warmM hW (h2 q hq), (va_Z.moved hW.alike h3).kept hk, (vk_S.moved hW.alike h4).kept hk, h5.warm hW⟩
theorem RepK.calling {E : EE} {U : State} {g : JFrame} {mk : MethodId} {a : Array Value} (h : RepK E U) : RepK E (U.calling g mk a) := by
  obtain ⟨h1, h2, h3, h4, h5⟩ := h
  exact ⟨va_K.moved (u := U) (U := U.calling g mk a) (Vm.Alike.refl U.vm) h1, fun q hq => va_Nw.same rfl rfl (h2 q hq), va_Z.moved (u := U) (U := U.calling g mk a) (Vm.Alike.refl U.vm) h3, vk_S.moved (u := U) (U := U.calling g mk a) (Vm.Alike.refl U.vm) h4, vk_R.same (u := U) (U := U.calling g mk a) rfl h5⟩
/-- a method: its name, code, locals, return type -/
abbrev MD : Type := MethodName × ByteArray × Nat × Option FieldType
abbrev wsM (M : MD) : List Cond := .code M.1 M.2.1 M.2.2.1 M.2.2.2 :: TS
abbrev rmM (d mc ms : Nat) : Room := { frames := d, cells := mc, slots := ms, locals := 60 * d }
def PcE (E : EE) (args : List Value) (h : AH) : Array Value → State → Prop := fun v U => v = (args.map (tr E)).toArray ∧ RepH E h U.heap ∧ RepK E U ∧ E.2.1 ≤ U.heap.size
def QcE (E : EE) (Q : Option Value → AH → Prop) : Array Value → State → Outcome → State → Prop := fun _ st o t => ∃ v h', o = .returned (v.map (tr E)) ∧ Q v h' ∧ RepH E h' t.heap ∧ va_F (mine E) st t
theorem PcE.blind (E : EE) (args : List Value) (h : AH) : FrameBlind (PcE E args h) := fun _ _ _ _ q => ⟨q.1, q.2.1, q.2.2.1.calling, q.2.2.2⟩
/-- the contract -/
def C (z : Bool) (d : Nat) (M : MD) (mc ms : Nat) (args : List Value) (h : AH) (Q : Option Value → AH → Prop) : Prop :=
  ∀ (l : Launch) (E : EE), E.1 = z → Met l M.1 (wsM M) (rmM d mc ms) (PcE E args h) (QcE E Q) mc ms (mine E)
abbrev CX : Type := Program × Launch × Env × Room × State × MethodId × Array Value × List Frame × Method × Code × (State → Prop) × EE
def R (X : CX) (M : MD) (pc : Nat) (L : AL) (st : List Value) (h : AH) (cs sl : Nat) : Prop := match X with
  | (p, l, e, Rm, s, m, args, below, meth, c, Q, E) => ∀ (H : Heap) (locs : List Loc) (ls : Array Slot), lv_has ls M.2.2.1 (trL E L) → RepH E h H → va_S (mine E) s.heap H locs → W p l e Rm s m args below meth c H locs cs sl Q (F0 m pc ls (st.map (tr E)))
def OKX (X : CX) (z : Bool) (d : Nat) (M : MD) : Prop := match X with
  | (p, _, _, Rm, s, m, args, _, meth, c, _, E) => p.tables.exec = Jvm.exec ∧ c.code = M.2.1 ∧ c.maxLocals = M.2.2.1 ∧ s.vm.findClass M.1.cls = some m.cls ∧ (∀ w ∈ TS, w.before args s = true) ∧ RepK E s ∧ meth.sig.returnType = M.2.2.2 ∧ meth.locks = false ∧ E.2.1 ≤ s.heap.size ∧ meth.name = M.1.name ∧ (d ≤ Rm.frames ∧ 60 * d ≤ Rm.locals) ∧ E.1 = z
def OKQ (X : CX) (mc ms : Nat) (Qp : Option Value → AH → Prop) : Prop := match X with
  | (_, _, _, Rm, s, _, args, below, _, _, Q, E) => Q = MQ below (QcE E Qp) args s mc ms (mine E) ∧ mc ≤ Rm.cells ∧ ms ≤ Rm.slots
set_option maxHeartbeats 1000000 in
theorem C.of {z : Bool} {d : Nat} {M : MD} {mc ms : Nat} {args : List Value} {h : AH} {Qp : Option Value → AH → Prop} (hy : plainName M.1.cls = true) (hn : (lg_sl args).length ≤ M.2.2.1)
    (k : ∀ X : CX, OKX X z d M → OKQ X mc ms Qp → R X M 0 (lv_args 0 args) [] h 0 0) : C z d M mc ms args h Qp := by
  intro l E hz
  refine Met.ofW (cc := M.2.1) (maxL := M.2.2.1) (ret := M.2.2.2) hy rfl ?_
  intro p e s m ar below meth c s₁ B hml hv
  obtain ⟨rfl, hR, hK, hE⟩ := hv
  have hts := atoms_spec (ws := wsM M) B.pre
  have K := k (p, l, e, (headSpec (wsM M) (rmM d mc ms)).room, s, m, (args.map (tr E)).toArray, below, meth, c, MQ below (QcE E Qp) (args.map (tr E)).toArray s mc ms (mine E), E) ⟨B.exec, B.bytes, hml, findClass_of_methodNamed B.named, fun w hw => hts w (List.mem_cons_of_mem _ hw), hK, B.returns, B.notSynchronized, hE, (name_of_methodNamed B.named B.method).1, ⟨Nat.le_refl _, Nat.le_refl _⟩, hz⟩ ⟨rfl, Nat.le_refl _, Nat.le_refl _⟩
  rw [lg_entry_eq]
  have hn' : (lg_sl (args.map (tr E))).length ≤ M.2.2.1 := by
    have e : ∀ vs : List Value, (lg_sl (vs.map (tr E))).length = (lg_sl vs).length := by
      intro vs
      induction vs with
      | nil => rfl
      | cons v vs ih =>
        simp only [lg_sl, List.map_cons, List.flatMap_cons, List.length_append] at ih ⊢
        rw [ih, tr_cat]
        cases v <;> rfl
    rw [e]; exact hn
  have hl := lv_entry (args.map (tr E)) (n := M.2.2.1) hn'
  rw [lv_args_tr] at hl
  exact K s.heap [] _ hl hR va_S.rf
end
section
/-! RULES: a kit row each, over the judgement R. -/
section RULES
variable {X : CX} {z : Bool} {d : Nat} {M : MD} {pc : Nat} {L : AL} {st : List Value} {h : AH} {cs sl : Nat}
theorem R_iload {i : Nat} {x : Int32} (hO : OKX X z d M) (dc : decode M.2.1 pc = .ok (.iload i, 2)) (hg : lk L i = some (.int x)) (k : R X M (pc + 2) L (.int x :: st) h cs sl) : R X M pc L (st) h cs sl := by
  obtain ⟨p, l, e, Rm, s, m, args, below, meth, c, Q, E⟩ := X
  obtain ⟨hx, hb, hml, hown, hts, hK, hr, hlk, hE, hnm, hrm, hz⟩ := hO
  intro H locs ls hl hP hS
  exact lv_iload hx hb dc (lk_has hl hg) (k H locs ls hl hP hS)
theorem R_iload_n {j : Fin 4} {x : Int32} (hO : OKX X z d M) (dc : decode M.2.1 pc = .ok (.iload_n j, 1)) (hg : lk L (j : Nat) = some (.int x)) (k : R X M (pc + 1) L (.int x :: st) h cs sl) : R X M pc L (st) h cs sl := by
  obtain ⟨p, l, e, Rm, s, m, args, below, meth, c, Q, E⟩ := X
  obtain ⟨hx, hb, hml, hown, hts, hK, hr, hlk, hE, hnm, hrm, hz⟩ := hO
  intro H locs ls hl hP hS
  exact lv_iload_n hx hb dc rfl (lk_has hl hg) (k H locs ls hl hP hS)
theorem R_lload {i : Nat} {x : Int64} (hO : OKX X z d M) (dc : decode M.2.1 pc = .ok (.lload i, 2)) (hg : lk L i = some (.long x)) (k : R X M (pc + 2) L (.long x :: st) h cs sl) : R X M pc L (st) h cs sl := by
  obtain ⟨p, l, e, Rm, s, m, args, below, meth, c, Q, E⟩ := X
  obtain ⟨hx, hb, hml, hown, hts, hK, hr, hlk, hE, hnm, hrm, hz⟩ := hO
  intro H locs ls hl hP hS
  exact lv_lload hx hb dc (lk_has hl hg) (k H locs ls hl hP hS)
theorem R_lload_n {j : Fin 4} {x : Int64} (hO : OKX X z d M) (dc : decode M.2.1 pc = .ok (.lload_n j, 1)) (hg : lk L (j : Nat) = some (.long x)) (k : R X M (pc + 1) L (.long x :: st) h cs sl) : R X M pc L (st) h cs sl := by
  obtain ⟨p, l, e, Rm, s, m, args, below, meth, c, Q, E⟩ := X
  obtain ⟨hx, hb, hml, hown, hts, hK, hr, hlk, hE, hnm, hrm, hz⟩ := hO
  intro H locs ls hl hP hS
  exact lv_lload_n hx hb dc rfl (lk_has hl hg) (k H locs ls hl hP hS)
theorem R_aload {i a : Nat} (hO : OKX X z d M) (dc : decode M.2.1 pc = .ok (.aload i, 2)) (hg : lk L i = some (.ref a)) (k : R X M (pc + 2) L (.ref a :: st) h cs sl) : R X M pc L (st) h cs sl := by
  obtain ⟨p, l, e, Rm, s, m, args, below, meth, c, Q, E⟩ := X
  obtain ⟨hx, hb, hml, hown, hts, hK, hr, hlk, hE, hnm, hrm, hz⟩ := hO
  intro H locs ls hl hP hS
  exact lv_aload hx hb dc (lk_has hl hg) (k H locs ls hl hP hS)
theorem R_aload_n {j : Fin 4} {a : Nat} (hO : OKX X z d M) (dc : decode M.2.1 pc = .ok (.aload_n j, 1)) (hg : lk L (j : Nat) = some (.ref a)) (k : R X M (pc + 1) L (.ref a :: st) h cs sl) : R X M pc L (st) h cs sl := by
  obtain ⟨p, l, e, Rm, s, m, args, below, meth, c, Q, E⟩ := X
  obtain ⟨hx, hb, hml, hown, hts, hK, hr, hlk, hE, hnm, hrm, hz⟩ := hO
  intro H locs ls hl hP hS
  exact lv_aload_n hx hb dc rfl (lk_has hl hg) (k H locs ls hl hP hS)
theorem R_istore {i : Nat} {x : Int32} {L2 : AL} (hO : OKX X z d M) (dc : decode M.2.1 pc = .ok (.istore i, 2)) (hi : i < M.2.2.1) (hg : sto1 i (.int x) L = L2) (k : R X M (pc + 2) L2 (st) h cs sl) : R X M pc L (.int x :: st) h cs sl := by
  obtain ⟨p, l, e, Rm, s, m, args, below, meth, c, Q, E⟩ := X
  obtain ⟨hx, hb, hml, hown, hts, hK, hr, hlk, hE, hnm, hrm, hz⟩ := hO
  intro H locs ls hl hP hS
  exact lv_istore hx hb dc hl hi (sto1_tr E i (.int x) L) (fun ls hl => k H locs ls (hg ▸ hl) hP hS)
theorem R_istore_n {j : Fin 4} {x : Int32} {L2 : AL} (hO : OKX X z d M) (dc : decode M.2.1 pc = .ok (.istore_n j, 1)) (hi : (j : Nat) < M.2.2.1) (hg : sto1 (j : Nat) (.int x) L = L2) (k : R X M (pc + 1) L2 (st) h cs sl) : R X M pc L (.int x :: st) h cs sl := by
  obtain ⟨p, l, e, Rm, s, m, args, below, meth, c, Q, E⟩ := X
  obtain ⟨hx, hb, hml, hown, hts, hK, hr, hlk, hE, hnm, hrm, hz⟩ := hO
  intro H locs ls hl hP hS
  exact lv_istore_n hx hb dc rfl hl hi (sto1_tr E (j : Nat) (.int x) L) (fun ls hl => k H locs ls (hg ▸ hl) hP hS)
theorem R_astore {i : Nat} {x : Nat} {L2 : AL} (hO : OKX X z d M) (dc : decode M.2.1 pc = .ok (.astore i, 2)) (hi : i < M.2.2.1) (hg : sto1 i (.ref x) L = L2) (k : R X M (pc + 2) L2 (st) h cs sl) : R X M pc L (.ref x :: st) h cs sl := by
  obtain ⟨p, l, e, Rm, s, m, args, below, meth, c, Q, E⟩ := X
  obtain ⟨hx, hb, hml, hown, hts, hK, hr, hlk, hE, hnm, hrm, hz⟩ := hO
  intro H locs ls hl hP hS
  exact lv_astore hx hb dc hl hi (sto1_tr E i (.ref x) L) (fun ls hl => k H locs ls (hg ▸ hl) hP hS)
theorem R_astore_n {j : Fin 4} {x : Nat} {L2 : AL} (hO : OKX X z d M) (dc : decode M.2.1 pc = .ok (.astore_n j, 1)) (hi : (j : Nat) < M.2.2.1) (hg : sto1 (j : Nat) (.ref x) L = L2) (k : R X M (pc + 1) L2 (st) h cs sl) : R X M pc L (.ref x :: st) h cs sl := by
  obtain ⟨p, l, e, Rm, s, m, args, below, meth, c, Q, E⟩ := X
  obtain ⟨hx, hb, hml, hown, hts, hK, hr, hlk, hE, hnm, hrm, hz⟩ := hO
  intro H locs ls hl hP hS
  exact lv_astore_n hx hb dc rfl hl hi (sto1_tr E (j : Nat) (.ref x) L) (fun ls hl => k H locs ls (hg ▸ hl) hP hS)
theorem R_lstore {i : Nat} {x : Int64} {L2 : AL} (hO : OKX X z d M) (dc : decode M.2.1 pc = .ok (.lstore i, 2)) (hi : i + 1 < M.2.2.1) (hg : sto2 i (.long x) L = L2) (k : R X M (pc + 2) L2 (st) h cs sl) : R X M pc L (.long x :: st) h cs sl := by
  obtain ⟨p, l, e, Rm, s, m, args, below, meth, c, Q, E⟩ := X
  obtain ⟨hx, hb, hml, hown, hts, hK, hr, hlk, hE, hnm, hrm, hz⟩ := hO
  intro H locs ls hl hP hS
  exact lv_lstore hx hb dc hl hi (sto2_tr E i (.long x) L) (fun ls hl => k H locs ls (hg ▸ hl) hP hS)
theorem R_lstore_n {j : Fin 4} {x : Int64} {L2 : AL} (hO : OKX X z d M) (dc : decode M.2.1 pc = .ok (.lstore_n j, 1)) (hi : (j : Nat) + 1 < M.2.2.1) (hg : sto2 (j : Nat) (.long x) L = L2) (k : R X M (pc + 1) L2 (st) h cs sl) : R X M pc L (.long x :: st) h cs sl := by
  obtain ⟨p, l, e, Rm, s, m, args, below, meth, c, Q, E⟩ := X
  obtain ⟨hx, hb, hml, hown, hts, hK, hr, hlk, hE, hnm, hrm, hz⟩ := hO
  intro H locs ls hl hP hS
  exact lv_lstore_n hx hb dc rfl hl hi (sto2_tr E (j : Nat) (.long x) L) (fun ls hl => k H locs ls (hg ▸ hl) hP hS)
theorem trL_at {b : EE} {i : Nat} {x : Int32} : ∀ {L : AL}, lk L i = some (.int x) → ∃ k : Nat, (trL b L)[k]? = some (i, .int x) := by
  intro L
  induction L with
  | nil => intro h; cases h
  | cons q t ih =>
    intro h
    unfold lk at h
    by_cases e : q.1 = i
    · rw [if_pos e] at h
      cases q with
      | mk a v =>
        cases h
        cases e
        exact ⟨0, rfl⟩
    · rw [if_neg e] at h
      obtain ⟨k, hk⟩ := ih h
      exact ⟨k + 1, hk⟩
theorem R_iinc {i : Nat} {n : Int} {x v : Int32} {L2 : AL} (hO : OKX X z d M) (dc : decode M.2.1 pc = .ok (.iinc i n, 3)) (hx0 : lk L i = some (.int x)) (hv : x + Int32.ofInt n = v) (hi : i < M.2.2.1) (hg : sto1 i (.int v) L = L2) (k : R X M (pc + 3) L2 (st) h cs sl) : R X M pc L (st) h cs sl := by
  obtain ⟨p, l, e, Rm, s, m, args, below, meth, c, Q, E⟩ := X
  obtain ⟨hx, hb, hml, hown, hts, hK, hr, hlk, hE, hnm, hrm, hz⟩ := hO
  intro H locs ls hl hP hS
  obtain ⟨k0, hk0⟩ := trL_at (b := E) hx0
  exact lv_iinc hx hb dc hl hk0 hv hi (sto1_tr E i (.int v) L) (fun ls hl => k H locs ls (hg ▸ hl) hP hS)
theorem R_iconst {n : Int} {v : Int32} (hO : OKX X z d M) (dc : decode M.2.1 pc = .ok (.iconst n, 1)) (hv : Int32.ofInt n = v) (k : R X M (pc + 1) L (.int v :: st) h cs sl) : R X M pc L (st) h cs sl := by
  obtain ⟨p, l, e, Rm, s, m, args, below, meth, c, Q, E⟩ := X
  obtain ⟨hx, hb, hml, hown, hts, hK, hr, hlk, hE, hnm, hrm, hz⟩ := hO
  intro H locs ls hl hP hS
  exact lv_iconst hx hb dc hv (k H locs ls hl hP hS)
theorem R_bipush {n : Int} {v : Int32} (hO : OKX X z d M) (dc : decode M.2.1 pc = .ok (.bipush n, 2)) (hv : (Int8.ofInt n).toInt32 = v) (k : R X M (pc + 2) L (.int v :: st) h cs sl) : R X M pc L (st) h cs sl := by
  obtain ⟨p, l, e, Rm, s, m, args, below, meth, c, Q, E⟩ := X
  obtain ⟨hx, hb, hml, hown, hts, hK, hr, hlk, hE, hnm, hrm, hz⟩ := hO
  intro H locs ls hl hP hS
  exact lv_bipush hx hb dc hv (k H locs ls hl hP hS)
theorem R_sipush {n : Int} {v : Int32} (hO : OKX X z d M) (dc : decode M.2.1 pc = .ok (.sipush n, 3)) (hv : (Int16.ofInt n).toInt32 = v) (k : R X M (pc + 3) L (.int v :: st) h cs sl) : R X M pc L (st) h cs sl := by
  obtain ⟨p, l, e, Rm, s, m, args, below, meth, c, Q, E⟩ := X
  obtain ⟨hx, hb, hml, hown, hts, hK, hr, hlk, hE, hnm, hrm, hz⟩ := hO
  intro H locs ls hl hP hS
  exact lv_sipush hx hb dc hv (k H locs ls hl hP hS)
theorem R_lconst {n : Fin 2} {v : Int64} (hO : OKX X z d M) (dc : decode M.2.1 pc = .ok (.lconst n, 1)) (hv : Int64.ofNat (n : Nat) = v) (k : R X M (pc + 1) L (.long v :: st) h cs sl) : R X M pc L (st) h cs sl := by
  obtain ⟨p, l, e, Rm, s, m, args, below, meth, c, Q, E⟩ := X
  obtain ⟨hx, hb, hml, hown, hts, hK, hr, hlk, hE, hnm, hrm, hz⟩ := hO
  intro H locs ls hl hP hS
  exact lv_lconst hx hb dc hv (k H locs ls hl hP hS)
theorem R_ldc {i : Nat} {v : Int32} (hO : OKX X z d M) (dc : decode M.2.1 pc = .ok (.ldc i, 2)) (hw : Cond.constant M.1.cls i v ∈ TS) (k : R X M (pc + 2) L (.int v :: st) h cs sl) : R X M pc L (st) h cs sl := by
  obtain ⟨p, l, e, Rm, s, m, args, below, meth, c, Q, E⟩ := X
  obtain ⟨hx, hb, hml, hown, hts, hK, hr, hlk, hE, hnm, hrm, hz⟩ := hO
  intro H locs ls hl hP hS
  exact lv_ldc hx hb hown (hts _ hw) dc (k H locs ls hl hP hS)
theorem R_ldc_w {i : Nat} {v : Int32} (hO : OKX X z d M) (dc : decode M.2.1 pc = .ok (.ldc_w i, 3)) (hw : Cond.constant M.1.cls i v ∈ TS) (k : R X M (pc + 3) L (.int v :: st) h cs sl) : R X M pc L (st) h cs sl := by
  obtain ⟨p, l, e, Rm, s, m, args, below, meth, c, Q, E⟩ := X
  obtain ⟨hx, hb, hml, hown, hts, hK, hr, hlk, hE, hnm, hrm, hz⟩ := hO
  intro H locs ls hl hP hS
  exact lv_ldcw hx hb hown (hts _ hw) dc (k H locs ls hl hP hS)
theorem R_ldc2 {i : Nat} {v : Int64} (hO : OKX X z d M) (dc : decode M.2.1 pc = .ok (.ldc2_w i, 3)) (hw : Cond.constantLong M.1.cls i v ∈ TS) (k : R X M (pc + 3) L (.long v :: st) h cs sl) : R X M pc L (st) h cs sl := by
  obtain ⟨p, l, e, Rm, s, m, args, below, meth, c, Q, E⟩ := X
  obtain ⟨hx, hb, hml, hown, hts, hK, hr, hlk, hE, hnm, hrm, hz⟩ := hO
  intro H locs ls hl hP hS
  exact lv_ldc2 hx hb hown (hts _ hw) dc (k H locs ls hl hP hS)
theorem R_iadd {x y : Int32} (hO : OKX X z d M) (dc : decode M.2.1 pc = .ok (.iadd, 1)) (k : R X M (pc + 1) L (.int (x + y) :: st) h cs sl) : R X M pc L (.int y :: .int x :: st) h cs sl := by
  obtain ⟨p, l, e, Rm, s, m, args, below, meth, c, Q, E⟩ := X
  obtain ⟨hx, hb, hml, hown, hts, hK, hr, hlk, hE, hnm, hrm, hz⟩ := hO
  intro H locs ls hl hP hS
  exact lv_iadd hx hb dc (k H locs ls hl hP hS)
theorem R_isub {x y : Int32} (hO : OKX X z d M) (dc : decode M.2.1 pc = .ok (.isub, 1)) (k : R X M (pc + 1) L (.int (x - y) :: st) h cs sl) : R X M pc L (.int y :: .int x :: st) h cs sl := by
  obtain ⟨p, l, e, Rm, s, m, args, below, meth, c, Q, E⟩ := X
  obtain ⟨hx, hb, hml, hown, hts, hK, hr, hlk, hE, hnm, hrm, hz⟩ := hO
  intro H locs ls hl hP hS
  exact lv_isub hx hb dc (k H locs ls hl hP hS)
theorem R_imul {x y : Int32} (hO : OKX X z d M) (dc : decode M.2.1 pc = .ok (.imul, 1)) (k : R X M (pc + 1) L (.int (x * y) :: st) h cs sl) : R X M pc L (.int y :: .int x :: st) h cs sl := by
  obtain ⟨p, l, e, Rm, s, m, args, below, meth, c, Q, E⟩ := X
  obtain ⟨hx, hb, hml, hown, hts, hK, hr, hlk, hE, hnm, hrm, hz⟩ := hO
  intro H locs ls hl hP hS
  exact lv_imul hx hb dc (k H locs ls hl hP hS)
theorem R_iand {x y : Int32} (hO : OKX X z d M) (dc : decode M.2.1 pc = .ok (.iand, 1)) (k : R X M (pc + 1) L (.int (x &&& y) :: st) h cs sl) : R X M pc L (.int y :: .int x :: st) h cs sl := by
  obtain ⟨p, l, e, Rm, s, m, args, below, meth, c, Q, E⟩ := X
  obtain ⟨hx, hb, hml, hown, hts, hK, hr, hlk, hE, hnm, hrm, hz⟩ := hO
  intro H locs ls hl hP hS
  exact lv_iand hx hb dc (k H locs ls hl hP hS)
theorem R_ior {x y : Int32} (hO : OKX X z d M) (dc : decode M.2.1 pc = .ok (.ior, 1)) (k : R X M (pc + 1) L (.int (x ||| y) :: st) h cs sl) : R X M pc L (.int y :: .int x :: st) h cs sl := by
  obtain ⟨p, l, e, Rm, s, m, args, below, meth, c, Q, E⟩ := X
  obtain ⟨hx, hb, hml, hown, hts, hK, hr, hlk, hE, hnm, hrm, hz⟩ := hO
  intro H locs ls hl hP hS
  exact lv_ior hx hb dc (k H locs ls hl hP hS)
theorem R_ixor {x y : Int32} (hO : OKX X z d M) (dc : decode M.2.1 pc = .ok (.ixor, 1)) (k : R X M (pc + 1) L (.int (x ^^^ y) :: st) h cs sl) : R X M pc L (.int y :: .int x :: st) h cs sl := by
  obtain ⟨p, l, e, Rm, s, m, args, below, meth, c, Q, E⟩ := X
  obtain ⟨hx, hb, hml, hown, hts, hK, hr, hlk, hE, hnm, hrm, hz⟩ := hO
  intro H locs ls hl hP hS
  exact lv_ixor hx hb dc (k H locs ls hl hP hS)
theorem R_ishl {x y : Int32} (hO : OKX X z d M) (dc : decode M.2.1 pc = .ok (.ishl, 1)) (k : R X M (pc + 1) L (.int (x <<< (y &&& 31)) :: st) h cs sl) : R X M pc L (.int y :: .int x :: st) h cs sl := by
  obtain ⟨p, l, e, Rm, s, m, args, below, meth, c, Q, E⟩ := X
  obtain ⟨hx, hb, hml, hown, hts, hK, hr, hlk, hE, hnm, hrm, hz⟩ := hO
  intro H locs ls hl hP hS
  exact lv_ishl hx hb dc (k H locs ls hl hP hS)
theorem R_ishr {x y : Int32} (hO : OKX X z d M) (dc : decode M.2.1 pc = .ok (.ishr, 1)) (k : R X M (pc + 1) L (.int (x >>> (y &&& 31)) :: st) h cs sl) : R X M pc L (.int y :: .int x :: st) h cs sl := by
  obtain ⟨p, l, e, Rm, s, m, args, below, meth, c, Q, E⟩ := X
  obtain ⟨hx, hb, hml, hown, hts, hK, hr, hlk, hE, hnm, hrm, hz⟩ := hO
  intro H locs ls hl hP hS
  exact lv_ishr hx hb dc (k H locs ls hl hP hS)
theorem R_iushr {x y : Int32} (hO : OKX X z d M) (dc : decode M.2.1 pc = .ok (.iushr, 1)) (k : R X M (pc + 1) L (.int ((x.toUInt32 >>> (y.toUInt32 &&& Int32.toUInt32 31)).toInt32) :: st) h cs sl) : R X M pc L (.int y :: .int x :: st) h cs sl := by
  obtain ⟨p, l, e, Rm, s, m, args, below, meth, c, Q, E⟩ := X
  obtain ⟨hx, hb, hml, hown, hts, hK, hr, hlk, hE, hnm, hrm, hz⟩ := hO
  intro H locs ls hl hP hS
  exact lv_iushr hx hb dc rfl (k H locs ls hl hP hS)
theorem R_idiv {x y : Int32} (hO : OKX X z d M) (dc : decode M.2.1 pc = .ok (.idiv, 1)) (hne : ¬ y = 0) (k : R X M (pc + 1) L (.int (x / y) :: st) h cs sl) : R X M pc L (.int y :: .int x :: st) h cs sl := by
  obtain ⟨p, l, e, Rm, s, m, args, below, meth, c, Q, E⟩ := X
  obtain ⟨hx, hb, hml, hown, hts, hK, hr, hlk, hE, hnm, hrm, hz⟩ := hO
  intro H locs ls hl hP hS
  exact lv_idiv hx hb dc hne (k H locs ls hl hP hS)
theorem R_irem {x y : Int32} (hO : OKX X z d M) (dc : decode M.2.1 pc = .ok (.irem, 1)) (hne : ¬ y = 0) (k : R X M (pc + 1) L (.int (x - x / y * y) :: st) h cs sl) : R X M pc L (.int y :: .int x :: st) h cs sl := by
  obtain ⟨p, l, e, Rm, s, m, args, below, meth, c, Q, E⟩ := X
  obtain ⟨hx, hb, hml, hown, hts, hK, hr, hlk, hE, hnm, hrm, hz⟩ := hO
  intro H locs ls hl hP hS
  exact lv_irem hx hb dc hne (k H locs ls hl hP hS)
theorem R_ladd {x y : Int64} (hO : OKX X z d M) (dc : decode M.2.1 pc = .ok (.ladd, 1)) (k : R X M (pc + 1) L (.long (x + y) :: st) h cs sl) : R X M pc L (.long y :: .long x :: st) h cs sl := by
  obtain ⟨p, l, e, Rm, s, m, args, below, meth, c, Q, E⟩ := X
  obtain ⟨hx, hb, hml, hown, hts, hK, hr, hlk, hE, hnm, hrm, hz⟩ := hO
  intro H locs ls hl hP hS
  exact lv_ladd hx hb dc (k H locs ls hl hP hS)
theorem R_lsub {x y : Int64} (hO : OKX X z d M) (dc : decode M.2.1 pc = .ok (.lsub, 1)) (k : R X M (pc + 1) L (.long (x - y) :: st) h cs sl) : R X M pc L (.long y :: .long x :: st) h cs sl := by
  obtain ⟨p, l, e, Rm, s, m, args, below, meth, c, Q, E⟩ := X
  obtain ⟨hx, hb, hml, hown, hts, hK, hr, hlk, hE, hnm, hrm, hz⟩ := hO
  intro H locs ls hl hP hS
  exact lv_lsub hx hb dc (k H locs ls hl hP hS)
theorem R_lmul {x y : Int64} (hO : OKX X z d M) (dc : decode M.2.1 pc = .ok (.lmul, 1)) (k : R X M (pc + 1) L (.long (x * y) :: st) h cs sl) : R X M pc L (.long y :: .long x :: st) h cs sl := by
  obtain ⟨p, l, e, Rm, s, m, args, below, meth, c, Q, E⟩ := X
  obtain ⟨hx, hb, hml, hown, hts, hK, hr, hlk, hE, hnm, hrm, hz⟩ := hO
  intro H locs ls hl hP hS
  exact lv_lmul hx hb dc (k H locs ls hl hP hS)
theorem R_ldiv {x y : Int64} (hO : OKX X z d M) (dc : decode M.2.1 pc = .ok (.ldiv, 1)) (hne : ¬ y = 0) (k : R X M (pc + 1) L (.long (x / y) :: st) h cs sl) : R X M pc L (.long y :: .long x :: st) h cs sl := by
  obtain ⟨p, l, e, Rm, s, m, args, below, meth, c, Q, E⟩ := X
  obtain ⟨hx, hb, hml, hown, hts, hK, hr, hlk, hE, hnm, hrm, hz⟩ := hO
  intro H locs ls hl hP hS
  exact lv_ldiv hx hb dc hne (k H locs ls hl hP hS)
theorem R_lrem {x y : Int64} (hO : OKX X z d M) (dc : decode M.2.1 pc = .ok (.lrem, 1)) (hne : ¬ y = 0) (k : R X M (pc + 1) L (.long (x - x / y * y) :: st) h cs sl) : R X M pc L (.long y :: .long x :: st) h cs sl := by
  obtain ⟨p, l, e, Rm, s, m, args, below, meth, c, Q, E⟩ := X
  obtain ⟨hx, hb, hml, hown, hts, hK, hr, hlk, hE, hnm, hrm, hz⟩ := hO
  intro H locs ls hl hP hS
  exact lv_lrem hx hb dc hne (k H locs ls hl hP hS)
theorem R_lcmp {x y : Int64} (hO : OKX X z d M) (dc : decode M.2.1 pc = .ok (.lcmp, 1)) (k : R X M (pc + 1) L (.int (lg_cmp x y) :: st) h cs sl) : R X M pc L (.long y :: .long x :: st) h cs sl := by
  obtain ⟨p, l, e, Rm, s, m, args, below, meth, c, Q, E⟩ := X
  obtain ⟨hx, hb, hml, hown, hts, hK, hr, hlk, hE, hnm, hrm, hz⟩ := hO
  intro H locs ls hl hP hS
  exact W.lcmp hx hb dc (k H locs ls hl hP hS)
theorem R_ineg {x : Int32} (hO : OKX X z d M) (dc : decode M.2.1 pc = .ok (.ineg, 1)) (k : R X M (pc + 1) L (.int (-x) :: st) h cs sl) : R X M pc L (.int x :: st) h cs sl := by
  obtain ⟨p, l, e, Rm, s, m, args, below, meth, c, Q, E⟩ := X
  obtain ⟨hx, hb, hml, hown, hts, hK, hr, hlk, hE, hnm, hrm, hz⟩ := hO
  intro H locs ls hl hP hS
  exact lv_ineg hx hb dc (k H locs ls hl hP hS)
theorem R_i2l {x : Int32} (hO : OKX X z d M) (dc : decode M.2.1 pc = .ok (.i2l, 1)) (k : R X M (pc + 1) L (.long (x.toInt64) :: st) h cs sl) : R X M pc L (.int x :: st) h cs sl := by
  obtain ⟨p, l, e, Rm, s, m, args, below, meth, c, Q, E⟩ := X
  obtain ⟨hx, hb, hml, hown, hts, hK, hr, hlk, hE, hnm, hrm, hz⟩ := hO
  intro H locs ls hl hP hS
  exact lv_i2l hx hb dc rfl (k H locs ls hl hP hS)
theorem R_l2i {x : Int64} (hO : OKX X z d M) (dc : decode M.2.1 pc = .ok (.l2i, 1)) (k : R X M (pc + 1) L (.int (x.toInt32) :: st) h cs sl) : R X M pc L (.long x :: st) h cs sl := by
  obtain ⟨p, l, e, Rm, s, m, args, below, meth, c, Q, E⟩ := X
  obtain ⟨hx, hb, hml, hown, hts, hK, hr, hlk, hE, hnm, hrm, hz⟩ := hO
  intro H locs ls hl hP hS
  exact lv_l2i hx hb dc rfl (k H locs ls hl hP hS)
theorem R_i2b {x : Int32} (hO : OKX X z d M) (dc : decode M.2.1 pc = .ok (.i2b, 1)) (k : R X M (pc + 1) L (.int (x.toInt8.toInt32) :: st) h cs sl) : R X M pc L (.int x :: st) h cs sl := by
  obtain ⟨p, l, e, Rm, s, m, args, below, meth, c, Q, E⟩ := X
  obtain ⟨hx, hb, hml, hown, hts, hK, hr, hlk, hE, hnm, hrm, hz⟩ := hO
  intro H locs ls hl hP hS
  exact lv_i2b hx hb dc rfl (k H locs ls hl hP hS)
theorem R_i2s {x : Int32} (hO : OKX X z d M) (dc : decode M.2.1 pc = .ok (.i2s, 1)) (k : R X M (pc + 1) L (.int (x.toInt16.toInt32) :: st) h cs sl) : R X M pc L (.int x :: st) h cs sl := by
  obtain ⟨p, l, e, Rm, s, m, args, below, meth, c, Q, E⟩ := X
  obtain ⟨hx, hb, hml, hown, hts, hK, hr, hlk, hE, hnm, hrm, hz⟩ := hO
  intro H locs ls hl hP hS
  exact lv_i2s hx hb dc rfl (k H locs ls hl hP hS)
theorem R_i2c {x : Int32} (hO : OKX X z d M) (dc : decode M.2.1 pc = .ok (.i2c, 1)) (k : R X M (pc + 1) L (.int ((x.toUInt32 % 65536).toInt32) :: st) h cs sl) : R X M pc L (.int x :: st) h cs sl := by
  obtain ⟨p, l, e, Rm, s, m, args, below, meth, c, Q, E⟩ := X
  obtain ⟨hx, hb, hml, hown, hts, hK, hr, hlk, hE, hnm, hrm, hz⟩ := hO
  intro H locs ls hl hP hS
  exact lv_i2c hx hb dc rfl (k H locs ls hl hP hS)
theorem R_dup {v : Value} (hO : OKX X z d M) (dc : decode M.2.1 pc = .ok (.dup, 1)) (hv : v.category = 1) (k : R X M (pc + 1) L (v :: v :: st) h cs sl) : R X M pc L (v :: st) h cs sl := by
  obtain ⟨p, l, e, Rm, s, m, args, below, meth, c, Q, E⟩ := X
  obtain ⟨hx, hb, hml, hown, hts, hK, hr, hlk, hE, hnm, hrm, hz⟩ := hO
  intro H locs ls hl hP hS
  exact lv_dup hx hb dc (by rw [tr_cat]; exact hv) (k H locs ls hl hP hS)
theorem R_pop {v : Value} (hO : OKX X z d M) (dc : decode M.2.1 pc = .ok (.pop, 1)) (hv : v.category = 1) (k : R X M (pc + 1) L (st) h cs sl) : R X M pc L (v :: st) h cs sl := by
  obtain ⟨p, l, e, Rm, s, m, args, below, meth, c, Q, E⟩ := X
  obtain ⟨hx, hb, hml, hown, hts, hK, hr, hlk, hE, hnm, hrm, hz⟩ := hO
  intro H locs ls hl hP hS
  exact lv_pop hx hb dc (by rw [tr_cat]; exact hv) (k H locs ls hl hP hS)
theorem R_dup2 {v u : Value} (hO : OKX X z d M) (dc : decode M.2.1 pc = .ok (.dup2, 1)) (hv : v.category = 1) (hu : u.category = 1) (k : R X M (pc + 1) L (v :: u :: v :: u :: st) h cs sl) : R X M pc L (v :: u :: st) h cs sl := by
  obtain ⟨p, l, e, Rm, s, m, args, below, meth, c, Q, E⟩ := X
  obtain ⟨hx, hb, hml, hown, hts, hK, hr, hlk, hE, hnm, hrm, hz⟩ := hO
  intro H locs ls hl hP hS
  exact lv_dup2_11 hx hb dc (by rw [tr_cat]; exact hv) (by rw [tr_cat]; exact hu) (k H locs ls hl hP hS)
theorem R_goto {off : Int} {tgt : Nat} (hO : OKX X z d M) (dc : decode M.2.1 pc = .ok (.goto off, 3)) (ht : (pc : Int) + off = (tgt : Int)) (k : R X M tgt L (st) h cs sl) : R X M pc L (st) h cs sl := by
  obtain ⟨p, l, e, Rm, s, m, args, below, meth, c, Q, E⟩ := X
  obtain ⟨hx, hb, hml, hown, hts, hK, hr, hlk, hE, hnm, hrm, hz⟩ := hO
  intro H locs ls hl hP hS
  exact lv_goto hx hb dc ht (k H locs ls hl hP hS)
theorem R_icmp_eq {x y : Int32} {off : Int} {tgt : Nat} (hO : OKX X z d M) (dc : decode M.2.1 pc = .ok (.if_icmp .eq off, 3)) (ht : (pc : Int) + off = (tgt : Int)) (kt : x = y → R X M tgt L st h cs sl) (kf : ¬ x = y → R X M (pc + 3) L st h cs sl) : R X M pc L (.int y :: .int x :: st) h cs sl := by
  obtain ⟨p, l, e, Rm, s, m, args, below, meth, c, Q, E⟩ := X
  obtain ⟨hx, hb, hml, hown, hts, hK, hr, hlk, hE, hnm, hrm, hz⟩ := hO
  intro H locs ls hl hP hS
  exact lv_icmp_eq hx hb dc ht (fun q => kt q H locs ls hl hP hS) (fun q => kf q H locs ls hl hP hS)
theorem R_icmp_ne {x y : Int32} {off : Int} {tgt : Nat} (hO : OKX X z d M) (dc : decode M.2.1 pc = .ok (.if_icmp .ne off, 3)) (ht : (pc : Int) + off = (tgt : Int)) (kt : ¬ x = y → R X M tgt L st h cs sl) (kf : x = y → R X M (pc + 3) L st h cs sl) : R X M pc L (.int y :: .int x :: st) h cs sl := by
  obtain ⟨p, l, e, Rm, s, m, args, below, meth, c, Q, E⟩ := X
  obtain ⟨hx, hb, hml, hown, hts, hK, hr, hlk, hE, hnm, hrm, hz⟩ := hO
  intro H locs ls hl hP hS
  exact lv_icmp_ne hx hb dc ht (fun q => kt q H locs ls hl hP hS) (fun q => kf q H locs ls hl hP hS)
theorem R_icmp_lt {x y : Int32} {off : Int} {tgt : Nat} (hO : OKX X z d M) (dc : decode M.2.1 pc = .ok (.if_icmp .lt off, 3)) (ht : (pc : Int) + off = (tgt : Int)) (kt : x < y → R X M tgt L st h cs sl) (kf : ¬ x < y → R X M (pc + 3) L st h cs sl) : R X M pc L (.int y :: .int x :: st) h cs sl := by
  obtain ⟨p, l, e, Rm, s, m, args, below, meth, c, Q, E⟩ := X
  obtain ⟨hx, hb, hml, hown, hts, hK, hr, hlk, hE, hnm, hrm, hz⟩ := hO
  intro H locs ls hl hP hS
  exact lv_icmp_lt hx hb dc ht (fun q => kt q H locs ls hl hP hS) (fun q => kf q H locs ls hl hP hS)
theorem R_icmp_ge {x y : Int32} {off : Int} {tgt : Nat} (hO : OKX X z d M) (dc : decode M.2.1 pc = .ok (.if_icmp .ge off, 3)) (ht : (pc : Int) + off = (tgt : Int)) (kt : y ≤ x → R X M tgt L st h cs sl) (kf : ¬ y ≤ x → R X M (pc + 3) L st h cs sl) : R X M pc L (.int y :: .int x :: st) h cs sl := by
  obtain ⟨p, l, e, Rm, s, m, args, below, meth, c, Q, E⟩ := X
  obtain ⟨hx, hb, hml, hown, hts, hK, hr, hlk, hE, hnm, hrm, hz⟩ := hO
  intro H locs ls hl hP hS
  exact lv_icmp_ge hx hb dc ht (fun q => kt q H locs ls hl hP hS) (fun q => kf q H locs ls hl hP hS)
theorem R_icmp_gt {x y : Int32} {off : Int} {tgt : Nat} (hO : OKX X z d M) (dc : decode M.2.1 pc = .ok (.if_icmp .gt off, 3)) (ht : (pc : Int) + off = (tgt : Int)) (kt : y < x → R X M tgt L st h cs sl) (kf : ¬ y < x → R X M (pc + 3) L st h cs sl) : R X M pc L (.int y :: .int x :: st) h cs sl := by
  obtain ⟨p, l, e, Rm, s, m, args, below, meth, c, Q, E⟩ := X
  obtain ⟨hx, hb, hml, hown, hts, hK, hr, hlk, hE, hnm, hrm, hz⟩ := hO
  intro H locs ls hl hP hS
  exact lv_icmp_gt hx hb dc ht (fun q => kt q H locs ls hl hP hS) (fun q => kf q H locs ls hl hP hS)
theorem R_icmp_le {x y : Int32} {off : Int} {tgt : Nat} (hO : OKX X z d M) (dc : decode M.2.1 pc = .ok (.if_icmp .le off, 3)) (ht : (pc : Int) + off = (tgt : Int)) (kt : x ≤ y → R X M tgt L st h cs sl) (kf : ¬ x ≤ y → R X M (pc + 3) L st h cs sl) : R X M pc L (.int y :: .int x :: st) h cs sl := by
  obtain ⟨p, l, e, Rm, s, m, args, below, meth, c, Q, E⟩ := X
  obtain ⟨hx, hb, hml, hown, hts, hK, hr, hlk, hE, hnm, hrm, hz⟩ := hO
  intro H locs ls hl hP hS
  exact lv_icmp_le hx hb dc ht (fun q => kt q H locs ls hl hP hS) (fun q => kf q H locs ls hl hP hS)
theorem R_if_eq {x : Int32} {off : Int} {tgt : Nat} (hO : OKX X z d M) (dc : decode M.2.1 pc = .ok (.ifCond .eq off, 3)) (ht : (pc : Int) + off = (tgt : Int)) (kt : x = 0 → R X M tgt L st h cs sl) (kf : ¬ x = 0 → R X M (pc + 3) L st h cs sl) : R X M pc L (.int x :: st) h cs sl := by
  obtain ⟨p, l, e, Rm, s, m, args, below, meth, c, Q, E⟩ := X
  obtain ⟨hx, hb, hml, hown, hts, hK, hr, hlk, hE, hnm, hrm, hz⟩ := hO
  intro H locs ls hl hP hS
  exact lv_if_eq hx hb dc ht (fun q => kt q H locs ls hl hP hS) (fun q => kf q H locs ls hl hP hS)
theorem R_if_ne {x : Int32} {off : Int} {tgt : Nat} (hO : OKX X z d M) (dc : decode M.2.1 pc = .ok (.ifCond .ne off, 3)) (ht : (pc : Int) + off = (tgt : Int)) (kt : ¬ x = 0 → R X M tgt L st h cs sl) (kf : x = 0 → R X M (pc + 3) L st h cs sl) : R X M pc L (.int x :: st) h cs sl := by
  obtain ⟨p, l, e, Rm, s, m, args, below, meth, c, Q, E⟩ := X
  obtain ⟨hx, hb, hml, hown, hts, hK, hr, hlk, hE, hnm, hrm, hz⟩ := hO
  intro H locs ls hl hP hS
  exact lv_if_ne hx hb dc ht (fun q => kt q H locs ls hl hP hS) (fun q => kf q H locs ls hl hP hS)
theorem R_if_lt {x : Int32} {off : Int} {tgt : Nat} (hO : OKX X z d M) (dc : decode M.2.1 pc = .ok (.ifCond .lt off, 3)) (ht : (pc : Int) + off = (tgt : Int)) (kt : x < 0 → R X M tgt L st h cs sl) (kf : ¬ x < 0 → R X M (pc + 3) L st h cs sl) : R X M pc L (.int x :: st) h cs sl := by
  obtain ⟨p, l, e, Rm, s, m, args, below, meth, c, Q, E⟩ := X
  obtain ⟨hx, hb, hml, hown, hts, hK, hr, hlk, hE, hnm, hrm, hz⟩ := hO
  intro H locs ls hl hP hS
  exact lv_if_lt hx hb dc ht (fun q => kt q H locs ls hl hP hS) (fun q => kf q H locs ls hl hP hS)
theorem R_if_ge {x : Int32} {off : Int} {tgt : Nat} (hO : OKX X z d M) (dc : decode M.2.1 pc = .ok (.ifCond .ge off, 3)) (ht : (pc : Int) + off = (tgt : Int)) (kt : 0 ≤ x → R X M tgt L st h cs sl) (kf : ¬ 0 ≤ x → R X M (pc + 3) L st h cs sl) : R X M pc L (.int x :: st) h cs sl := by
  obtain ⟨p, l, e, Rm, s, m, args, below, meth, c, Q, E⟩ := X
  obtain ⟨hx, hb, hml, hown, hts, hK, hr, hlk, hE, hnm, hrm, hz⟩ := hO
  intro H locs ls hl hP hS
  exact lv_if_ge hx hb dc ht (fun q => kt q H locs ls hl hP hS) (fun q => kf q H locs ls hl hP hS)
theorem R_if_gt {x : Int32} {off : Int} {tgt : Nat} (hO : OKX X z d M) (dc : decode M.2.1 pc = .ok (.ifCond .gt off, 3)) (ht : (pc : Int) + off = (tgt : Int)) (kt : 0 < x → R X M tgt L st h cs sl) (kf : ¬ 0 < x → R X M (pc + 3) L st h cs sl) : R X M pc L (.int x :: st) h cs sl := by
  obtain ⟨p, l, e, Rm, s, m, args, below, meth, c, Q, E⟩ := X
  obtain ⟨hx, hb, hml, hown, hts, hK, hr, hlk, hE, hnm, hrm, hz⟩ := hO
  intro H locs ls hl hP hS
  exact lv_if_gt hx hb dc ht (fun q => kt q H locs ls hl hP hS) (fun q => kf q H locs ls hl hP hS)
theorem R_if_le {x : Int32} {off : Int} {tgt : Nat} (hO : OKX X z d M) (dc : decode M.2.1 pc = .ok (.ifCond .le off, 3)) (ht : (pc : Int) + off = (tgt : Int)) (kt : x ≤ 0 → R X M tgt L st h cs sl) (kf : ¬ x ≤ 0 → R X M (pc + 3) L st h cs sl) : R X M pc L (.int x :: st) h cs sl := by
  obtain ⟨p, l, e, Rm, s, m, args, below, meth, c, Q, E⟩ := X
  obtain ⟨hx, hb, hml, hown, hts, hK, hr, hlk, hE, hnm, hrm, hz⟩ := hO
  intro H locs ls hl hP hS
  exact lv_if_le hx hb dc ht (fun q => kt q H locs ls hl hP hS) (fun q => kf q H locs ls hl hP hS)
theorem R_tsw {dflt lo hi : Int} {offs : Array Int} {len : Nat} {x : Int32} (hO : OKX X z d M) (dc : decode M.2.1 pc = .ok (.tableswitch dflt lo hi offs, len))
    (kt : ∀ (j : Nat) (off : Int), offs[j]? = some off → x.toInt = lo + j → ¬ hi < x.toInt → ∃ tgt : Nat, (pc : Int) + off = (tgt : Int) ∧ R X M tgt L st h cs sl) (hn : ∀ j : Nat, lo + j ≤ hi → ∃ off, offs[j]? = some off) {tgd : Nat} (hd : (pc : Int) + dflt = (tgd : Int)) (kf : (x.toInt < lo ∨ hi < x.toInt) → R X M tgd L st h cs sl) : R X M pc L (.int x :: st) h cs sl := by
  obtain ⟨p, l, e, Rm, s, m, args, below, meth, c, Q, E⟩ := X
  obtain ⟨hx, hb, hml, hown, hts, hK, hr, hlk, hE, hnm, hrm, hz⟩ := hO
  intro H locs ls hl hP hS
  by_cases c1 : x.toInt < lo
  · exact lv_tableOut hx hb dc (Or.inl c1) hd (kf (Or.inl c1) H locs ls hl hP hS)
  · by_cases c2 : hi < x.toInt
    · exact lv_tableOut hx hb dc (Or.inr c2) hd (kf (Or.inr c2) H locs ls hl hP hS)
    · obtain ⟨off, ho⟩ := hn (x.toInt - lo).toNat (by omega)
      obtain ⟨tgt, ht, k⟩ := kt _ off ho (by omega) c2
      exact lv_tableIn hx hb dc c1 c2 ho ht (k H locs ls hl hP hS)
theorem R_iret {x : Int32} {Qp : Option Value → AH → Prop} (hO : OKX X z d M) (hQ : OKQ X cs sl Qp) (dc : decode M.2.1 pc = .ok (.ireturn, 1)) (ht : M.2.2.2 = some .int) (hq : Qp (some (.int x)) h) : R X M pc L [.int x] h cs sl := by
  obtain ⟨p, l, e, Rm, s, m, args, below, meth, c, Q, E⟩ := X
  obtain ⟨hx, hb, hml, hown, hts, hK, hr, hlk, hE, hnm, hrm, hz⟩ := hO
  intro H locs ls hl hP hS
  obtain ⟨hQ, -, -⟩ := hQ
  subst hQ
  exact W.iret hx hb (hr.trans ht) (fun t ht hW => ⟨some (.int x), h, rfl, hq, by rw [ht]; exact hP, hS.F ht⟩) hS.2.2 dc hlk
theorem R_zret {x : Int32} {Qp : Option Value → AH → Prop} (hO : OKX X z d M) (hQ : OKQ X cs sl Qp) (dc : decode M.2.1 pc = .ok (.ireturn, 1)) (ht : M.2.2.2 = some .boolean) (hv : x = 0 ∨ x = 1) (hq : Qp (some (.int x)) h) : R X M pc L [.int x] h cs sl := by
  obtain ⟨p, l, e, Rm, s, m, args, below, meth, c, Q, E⟩ := X
  obtain ⟨hx, hb, hml, hown, hts, hK, hr, hlk, hE, hnm, hrm, hz⟩ := hO
  intro H locs ls hl hP hS
  obtain ⟨hQ, -, -⟩ := hQ
  subst hQ
  exact W.zret hx hb (hr.trans ht) (by rcases hv with rfl | rfl <;> rfl) (fun t ht hW => ⟨some (.int x), h, rfl, hq, by rw [ht]; exact hP, hS.F ht⟩) hS.2.2 dc hlk
theorem R_lret {x : Int64} {Qp : Option Value → AH → Prop} (hO : OKX X z d M) (hQ : OKQ X cs sl Qp) (dc : decode M.2.1 pc = .ok (.lreturn, 1)) (ht : M.2.2.2 = some .long) (hq : Qp (some (.long x)) h) : R X M pc L [.long x] h cs sl := by
  obtain ⟨p, l, e, Rm, s, m, args, below, meth, c, Q, E⟩ := X
  obtain ⟨hx, hb, hml, hown, hts, hK, hr, hlk, hE, hnm, hrm, hz⟩ := hO
  intro H locs ls hl hP hS
  obtain ⟨hQ, -, -⟩ := hQ
  subst hQ
  exact W.lret hx hb (hr.trans ht) (fun t ht hW => ⟨some (.long x), h, rfl, hq, by rw [ht]; exact hP, hS.F ht⟩) hS.2.2 dc hlk
theorem R_vret {Qp : Option Value → AH → Prop} (hO : OKX X z d M) (hQ : OKQ X cs sl Qp) (dc : decode M.2.1 pc = .ok (.return_, 1)) (ht : M.2.2.2 = none) (hq : Qp none h) : R X M pc L [] h cs sl := by
  obtain ⟨p, l, e, Rm, s, m, args, below, meth, c, Q, E⟩ := X
  obtain ⟨hx, hb, hml, hown, hts, hK, hr, hlk, hE, hnm, hrm, hz⟩ := hO
  intro H locs ls hl hP hS
  obtain ⟨hQ, -, -⟩ := hQ
  subst hQ
  exact W.vret hx hb (hr.trans ht) (fun t ht hW => ⟨none, h, rfl, hq, by rw [ht]; exact hP, hS.F ht⟩) hS.2.2 dc hlk
theorem R_aret {a : Nat} {nm : String} {Qp : Option Value → AH → Prop} (hO : OKX X z d M) (hQ : OKQ X cs sl Qp) (dc : decode M.2.1 pc = .ok (.areturn, 1)) (ht : M.2.2.2 = some (.object nm)) (hq : Qp (some (.ref a)) h) : R X M pc L [.ref a] h cs sl := by
  obtain ⟨p, l, e, Rm, s, m, args, below, meth, c, Q, E⟩ := X
  obtain ⟨hx, hb, hml, hown, hts, hK, hr, hlk, hE, hnm, hrm, hz⟩ := hO
  intro H locs ls hl hP hS
  obtain ⟨hQ, -, -⟩ := hQ
  subst hQ
  exact W.aret hx hb (hr.trans ht) (Or.inl ⟨nm, rfl⟩) (Or.inr ⟨_, rfl⟩) (fun t ht hW => ⟨some (.ref a), h, rfl, hq, by rw [ht]; exact hP, hS.F ht⟩) hS.2.2 dc hlk
theorem R_objInit {idx a : Nat} (hO : OKX X z d M) (dc : decode M.2.1 pc = .ok (.invokespecial idx, 3)) (hd : 0 < d) (hlink : Cond.methodLink M.1.cls idx objectInit ∈ TS) (hs : (st.map fun v => v.category).sum ≤ 8) (k : R X M (pc + 3) L st h cs sl) : R X M pc L (.ref a :: st) h cs sl := by
  obtain ⟨p, l, e, Rm, s, m, args, below, meth, c, Q, E⟩ := X
  obtain ⟨hx, hb, hml, hown, hts, hK, hr, hlk, hE, hnm, hrm, hz⟩ := hO
  intro H locs ls hl hP hS
  have e : ((st.map (tr E)).map fun v => v.category).sum = (st.map fun v => v.category).sum := by
    rw [List.map_map]; congr 1; apply List.map_congr_left; intro v _; exact tr_cat _ v
  refine W.objInit hx hb hown (hts _ hlink) (hts _ (TSi 89 (by decide +kernel) (by decide +kernel))) (hts _ (TSi 90 (by decide +kernel) (by decide +kernel))) rfl (by rw [hml]; exact hl.1) rfl dc (by omega) (by show 2 * 0 + _ + 12 ≤ _; rw [e]; omega) ?_
  exact k H locs ls hl hP hS
theorem R_mmax {idx : Nat} {x y : Int32} (hO : OKX X z d M) (dc : decode M.2.1 pc = .ok (.invokestatic idx, 3)) (hd : 0 < d) (hlink : Cond.methodLink M.1.cls idx Lib.Math.max.name ∈ TS) (hw : Cond.static Lib.Math.max.name ∈ TS ∧ Cond.initialized "java/lang/Math" ∈ TS ∧ Cond.code Lib.Math.max.name Lib.Math.max.code 2 (some .int) ∈ TS) (hs : (st.map fun v => v.category).sum ≤ 8) (k : R X M (pc + 3) L (.int (if x < y then y else x) :: st) h 0 0) : R X M pc L (.int y :: .int x :: st) h 0 0 := by
  obtain ⟨p, l, e, Rm, s, m, args, below, meth, c, Q, E⟩ := X
  obtain ⟨hx, hb, hml, hown, hts, hK, hr, hlk, hE, hnm, hrm, hz⟩ := hO
  intro H locs ls hl hP hS
  have e : ((st.map (tr E)).map fun v => v.category).sum = (st.map fun v => v.category).sum := by
    rw [List.map_map]; congr 1; apply List.map_congr_left; intro v _; exact tr_cat _ v
  exact va_mmax hx hb (by rw [hml]; exact hl.1.symm) hown (hts _ hlink) (hts _ hw.1) (hts _ hw.2.1) (hts _ hw.2.2) (by omega) (by rw [e]; omega) (Nat.zero_le _) (Nat.zero_le _) dc (k H locs ls hl hP hS)
theorem R_mmin {idx : Nat} {x y : Int32} (hO : OKX X z d M) (dc : decode M.2.1 pc = .ok (.invokestatic idx, 3)) (hd : 0 < d) (hlink : Cond.methodLink M.1.cls idx Lib.Math.min.name ∈ TS) (hw : Cond.static Lib.Math.min.name ∈ TS ∧ Cond.initialized "java/lang/Math" ∈ TS ∧ Cond.code Lib.Math.min.name Lib.Math.min.code 2 (some .int) ∈ TS) (hs : (st.map fun v => v.category).sum ≤ 8) (k : R X M (pc + 3) L (.int (if y < x then y else x) :: st) h 0 0) : R X M pc L (.int y :: .int x :: st) h 0 0 := by
  obtain ⟨p, l, e, Rm, s, m, args, below, meth, c, Q, E⟩ := X
  obtain ⟨hx, hb, hml, hown, hts, hK, hr, hlk, hE, hnm, hrm, hz⟩ := hO
  intro H locs ls hl hP hS
  have e : ((st.map (tr E)).map fun v => v.category).sum = (st.map fun v => v.category).sum := by
    rw [List.map_map]; congr 1; apply List.map_congr_left; intro v _; exact tr_cat _ v
  exact va_mmin hx hb (by rw [hml]; exact hl.1.symm) hown (hts _ hlink) (hts _ hw.1) (hts _ hw.2.1) (hts _ hw.2.2) (by omega) (by rw [e]; omega) (Nat.zero_le _) (Nat.zero_le _) dc (k H locs ls hl hP hS)
theorem R_sub {L2 : AL} (ks : List Nat) (hl2 : ks.filterMap (fun k => L[k]?) = L2) (k : R X M pc L2 st h cs sl) : R X M pc L st h cs sl := by
  obtain ⟨p, l, e, Rm, s, m, args, below, meth, c, Q, E⟩ := X
  intro H locs ls hl hP hS
  refine k H locs ls ⟨hl.1, hl.2.1, fun q hq => hl.2.2 q ?_⟩ hP hS
  obtain ⟨q0, hq0, rfl⟩ := List.mem_map.mp hq
  rw [← hl2] at hq0
  obtain ⟨i, -, hi⟩ := List.mem_filterMap.mp hq0
  exact List.mem_map.mpr ⟨q0, List.mem_of_getElem? hi, rfl⟩
end RULES
end
section
/-! HEAP AND CALLS: the rules of R for fields, arrays, calls -/
def FL (own : String) (idx ci k : Nat) (ty : FieldType) (fin : Bool) : Prop := ∃ (C : String) (T : u_T) (N : Nat) (ty0 : Nat → FieldType), cls0[ci]? = some (C, T, N) ∧ k < N ∧ (∀ w ∈ u_ws C T N, w ∈ TS) ∧ (∀ j, j < N → parseFieldDescriptor (T j).2.2.1 = some (ty0 j)) ∧ (∀ a, a < N → ∀ b, b < N → a ≠ b → (T a).2.1 ≠ (T b).2.1) ∧ Cond.fieldLink own idx (T k).1 (T k).2.1 (T k).2.2.1 ∈ TS ∧ ty0 k = ty ∧ (T k).2.2.2 = fin ∧ ci < 20 ∧ (T k).1 = C
theorem tr_catsum (b : EE) (st : List Value) : ((st.map (tr b)).map fun v => v.category).sum = (st.map fun v => v.category).sum := by
  rw [List.map_map]; congr 1; apply List.map_congr_left; intro v _; exact tr_cat _ v
theorem cE_obj {E : EE} {ci : Nat} {fs : List Value} (h : ci < 20) : cE E (ci, fs) = .inr (ci, fs.map (tr E)) := if_pos h
theorem cE_int {E : EE} {fs : List Value} : cE E (20, fs) = .inl (E.2.2.2.1.1, fs.length, .inl (fun j => iv (fs.getD j .null))) := rfl
theorem cE_bool {E : EE} {fs : List Value} : cE E (21, fs) = .inl (E.2.2.2.1.2.1, fs.length, .inl (fun j => iv (fs.getD j .null))) := rfl
theorem cE_st {E : EE} {fs : List Value} : cE E (22, fs) = .inl (E.2.2.2.1.2.2.1, fs.length, .inr (.inr (.inr (.inr (fun j => rv E (fs.getD j .null)))))) := rfl
theorem cE_row {E : EE} {fs : List Value} : cE E (23, fs) = .inl (E.2.2.2.1.2.2.2, fs.length, .inr (.inr (.inr (.inr (fun j => rv E (fs.getD j .null)))))) := rfl
theorem goodIn_c {big ws : List Cond} {w : Cond} (h1 : w ∈ big ∧ ((w.onTables && w.keeps) = true ∨ ∃ ty, w = .arrayClass ty)) (h2 : GoodIn big ws) : GoodIn big (w :: ws) := fun v hv => (List.mem_cons.mp hv).elim (fun e => e ▸ h1) (h2 v)
theorem RepH.ns {E : EE} {h : AH} {H : Heap} (hz : E.1 = false) (h1 : h.length ≤ 1000) (h2 : va_P E.2.2.1 cls0 (conc E h) H) : RepH E h H := ⟨fun q => absurd (hz.symm.trans q) (by decide), h1, h2⟩
section HEAP
variable {X : CX} {z : Bool} {d : Nat} {M : MD} {pc : Nat} {L : AL} {st : List Value} {h : AH} {cs sl : Nat}
theorem R_getf {idx ci k a : Nat} {ty : FieldType} {fin : Bool} {fs : List Value} {v : Value} (hO : OKX X z d M) (dc : decode M.2.1 pc = .ok (.getfield idx, 3)) (fl : FL M.1.cls idx ci k ty fin) (ha : h[a]? = some (ci, fs)) (hv : fs[k]? = some v) (kk : R X M (pc + 3) L (v :: st) h cs sl) : R X M pc L (.ref a :: st) h cs sl := by
  obtain ⟨p, l, e, Rm, s, m, args, below, meth, c, Q, E⟩ := X
  obtain ⟨hx, hb, hml, hown, hts, hK, hr, hlk, hE, hnm, hrm, hz⟩ := hO
  obtain ⟨C, T, N, ty0, f1, f2, f3, f4, f5, f6, f7, f8, f9, -⟩ := fl
  intro H locs ls hl hP hS
  show W _ _ _ _ _ _ _ _ _ _ _ _ _ _ _ (F0 m pc ls (.ref (pa E a) :: st.map (tr E)))
  rw [pa_at hP.2.1 ha]
  have hq := conc_at (E := E) ha
  rw [cE_obj f9] at hq
  exact va_get hx hb hts f3 hown hK.1 hP.2.2 a hq f1 k f2 (hts _ f6) (fun _ h9 => h9) (v := tr E v) (by rw [List.getElem?_map, hv]; rfl) dc (kk H locs ls hl hP hS)
theorem R_putf {idx ci k a : Nat} {ty : FieldType} {fs : List Value} {v : Value} (hO : OKX X false d M) (dc : decode M.2.1 pc = .ok (.putfield idx, 3)) (fl : FL M.1.cls idx ci k ty false) (ha : h[a]? = some (ci, fs)) (hlen : k < fs.length) (hn : narrow ty v = v) (hf : fits ty v = true) (hv : ∀ b, tr b v = v) (kk : R X M (pc + 3) L st (h.set a (ci, fs.set k v)) cs sl) : R X M pc L (v :: .ref a :: st) h cs sl := by
  obtain ⟨p, l, e, Rm, s, m, args, below, meth, c, Q, E⟩ := X
  obtain ⟨hx, hb, hml, hown, hts, hK, hr, hlk, hE, hnm, hrm, hz⟩ := hO
  obtain ⟨C, T, N, ty0, f1, f2, f3, f4, f5, f6, f7, f8, f9, -⟩ := fl
  intro H locs ls hl hP hS
  show W _ _ _ _ _ _ _ _ _ _ _ _ _ _ _ (F0 m pc ls (tr E v :: .ref (pa E a) :: st.map (tr E)))
  rw [pa_at hP.2.1 ha, hv]
  have hq := conc_at (E := E) ha
  rw [cE_obj f9] at hq
  refine va_put hx hb hts f3 ty0 f4 f5 hown hK.1 hP.2.2 (conc_D h) hS a hq f1 k f2 (hts _ f6) (fun _ h9 => h9) f8 (by rw [f4 k f2, f7]) hn hf (by rw [List.length_map]; exact hlen) dc (fun H1 locs1 hP1 hD1 hS1 => ?_)
  refine kk H1 locs1 ls hl (RepH.ns hz (by rw [List.length_set]; exact hP.2.1) ?_) hS1
  have e : (fs.map (tr E)).set k v = (fs.set k v).map (tr E) := by rw [List.map_set, hv]
  rw [e, ← cE_obj (E := E) f9, conc_set] at hP1
  exact hP1
theorem R_iald {a : Nat} {i : Int32} {fs : List Value} {x : Int32} (hO : OKX X z d M) (dc : decode M.2.1 pc = .ok (.iaload, 1)) (ha : h[a]? = some (20, fs)) (hi : ¬ (i < 0 ∨ fs.length ≤ i.toNatClampNeg)) (hv : fs[i.toNatClampNeg]? = some (.int x)) (kk : R X M (pc + 1) L (.int x :: st) h cs sl) : R X M pc L (.int i :: .ref a :: st) h cs sl := by
  obtain ⟨p, l, e, Rm, s, m, args, below, meth, c, Q, E⟩ := X
  obtain ⟨hx, hb, hml, hown, hts, hK, hr, hlk, hE, hnm, hrm, hz⟩ := hO
  intro H locs ls hl hP hS
  show W _ _ _ _ _ _ _ _ _ _ _ _ _ _ _ (F0 m pc ls (.int i :: .ref (pa E a) :: st.map (tr E)))
  rw [pa_at hP.2.1 ha]
  have hq := conc_at (E := E) ha
  rw [cE_int] at hq
  refine va_iald hx hb hK.1 hP.2.2 a 0 hq rfl hi dc ?_
  have e : iv (fs.getD i.toNatClampNeg .null) = x := by rw [List.getD_eq_getElem?_getD, hv]; rfl
  rw [e]
  exact kk H locs ls hl hP hS
theorem R_zald {a : Nat} {i : Int32} {fs : List Value} {x : Int32} (hO : OKX X z d M) (dc : decode M.2.1 pc = .ok (.baload, 1)) (ha : h[a]? = some (21, fs)) (hi : ¬ (i < 0 ∨ fs.length ≤ i.toNatClampNeg)) (hv : fs[i.toNatClampNeg]? = some (.int x)) (kk : R X M (pc + 1) L (.int x :: st) h cs sl) : R X M pc L (.int i :: .ref a :: st) h cs sl := by
  obtain ⟨p, l, e, Rm, s, m, args, below, meth, c, Q, E⟩ := X
  obtain ⟨hx, hb, hml, hown, hts, hK, hr, hlk, hE, hnm, hrm, hz⟩ := hO
  intro H locs ls hl hP hS
  show W _ _ _ _ _ _ _ _ _ _ _ _ _ _ _ (F0 m pc ls (.int i :: .ref (pa E a) :: st.map (tr E)))
  rw [pa_at hP.2.1 ha]
  have hq := conc_at (E := E) ha
  rw [cE_bool] at hq
  refine va_zald hx hb hK.1 hP.2.2 a 1 hq rfl hi dc ?_
  have e : iv (fs.getD i.toNatClampNeg .null) = x := by rw [List.getD_eq_getElem?_getD, hv]; rfl
  rw [e]
  exact kk H locs ls hl hP hS
theorem iv_upd {fs : List Value} {i : Nat} {x : Int32} (hi : i < fs.length) : upd (fun j => iv (fs.getD j .null)) i x = fun j => iv ((fs.set i (.int x)).getD j .null) := by
  funext j
  show (if j = i then x else iv (fs.getD j .null)) = iv ((fs.set i (.int x)).getD j .null)
  rw [List.getD_eq_getElem?_getD, List.getD_eq_getElem?_getD, List.getElem?_set]
  by_cases e : j = i
  · subst e
    rw [if_pos rfl, if_pos rfl, if_pos hi]
    rfl
  · rw [if_neg e, if_neg (fun q => e q.symm)]
theorem R_iast {a : Nat} {i : Int32} {fs : List Value} {x : Int32} (hO : OKX X false d M) (dc : decode M.2.1 pc = .ok (.iastore, 1)) (ha : h[a]? = some (20, fs)) (hi : ¬ (i < 0 ∨ fs.length ≤ i.toNatClampNeg)) (kk : R X M (pc + 1) L st (h.set a (20, fs.set i.toNatClampNeg (.int x))) cs sl) : R X M pc L (.int x :: .int i :: .ref a :: st) h cs sl := by
  obtain ⟨p, l, e, Rm, s, m, args, below, meth, c, Q, E⟩ := X
  obtain ⟨hx, hb, hml, hown, hts, hK, hr, hlk, hE, hnm, hrm, hz⟩ := hO
  intro H locs ls hl hP hS
  show W _ _ _ _ _ _ _ _ _ _ _ _ _ _ _ (F0 m pc ls (.int x :: .int i :: .ref (pa E a) :: st.map (tr E)))
  rw [pa_at hP.2.1 ha]
  have hq := conc_at (E := E) ha
  rw [cE_int] at hq
  refine va_iast hx hb hK.1 hP.2.2 (conc_D h) hS a 0 hq rfl hi dc (fun H1 locs1 hP1 hD1 hS1 => ?_)
  refine kk H1 locs1 ls hl (RepH.ns hz (by rw [List.length_set]; exact hP.2.1) ?_) hS1
  have hi' : i.toNatClampNeg < fs.length := Nat.not_le.mp fun q => hi (Or.inr q)
  rw [iv_upd hi', ← List.length_set (as := fs) (i := i.toNatClampNeg) (a := Value.int x), ← cE_int (E := E), conc_set] at hP1
  exact hP1
theorem R_zast {a : Nat} {i : Int32} {fs : List Value} (hO : OKX X false d M) (dc : decode M.2.1 pc = .ok (.bastore, 1)) (ha : h[a]? = some (21, fs)) (hi : ¬ (i < 0 ∨ fs.length ≤ i.toNatClampNeg)) (kk : R X M (pc + 1) L st (h.set a (21, fs.set i.toNatClampNeg (.int 1))) cs sl) : R X M pc L (.int 1 :: .int i :: .ref a :: st) h cs sl := by
  obtain ⟨p, l, e, Rm, s, m, args, below, meth, c, Q, E⟩ := X
  obtain ⟨hx, hb, hml, hown, hts, hK, hr, hlk, hE, hnm, hrm, hz⟩ := hO
  intro H locs ls hl hP hS
  show W _ _ _ _ _ _ _ _ _ _ _ _ _ _ _ (F0 m pc ls (.int 1 :: .int i :: .ref (pa E a) :: st.map (tr E)))
  rw [pa_at hP.2.1 ha]
  have hq := conc_at (E := E) ha
  rw [cE_bool] at hq
  refine va_zast hx hb hK.1 hP.2.2 (conc_D h) hS a 1 hq rfl hi dc (fun H1 locs1 hP1 hD1 hS1 => ?_)
  refine kk H1 locs1 ls hl (RepH.ns hz (by rw [List.length_set]; exact hP.2.1) ?_) hS1
  have hi' : i.toNatClampNeg < fs.length := Nat.not_le.mp fun q => hi (Or.inr q)
  rw [show vp_nar .boolean 1 = 1 from rfl, iv_upd hi', ← List.length_set (as := fs) (i := i.toNatClampNeg) (a := Value.int 1), ← cE_bool (E := E), conc_set] at hP1
  exact hP1
theorem R_aald {a c2 : Nat} {i : Int32} {fs : List Value} {q : Nat} (hO : OKX X z d M) (dc : decode M.2.1 pc = .ok (.aaload, 1)) (hc2 : c2 = 22 ∨ c2 = 23) (ha : h[a]? = some (c2, fs)) (hi : ¬ (i < 0 ∨ fs.length ≤ i.toNatClampNeg)) (hv : fs[i.toNatClampNeg]? = some (.ref q)) (kk : R X M (pc + 1) L (.ref q :: st) h cs sl) : R X M pc L (.int i :: .ref a :: st) h cs sl := by
  obtain ⟨p, l, e, Rm, s, m, args, below, meth, c, Q, E⟩ := X
  obtain ⟨hx, hb, hml, hown, hts, hK, hr, hlk, hE, hnm, hrm, hz⟩ := hO
  intro H locs ls hl hP hS
  show W _ _ _ _ _ _ _ _ _ _ _ _ _ _ _ (F0 m pc ls (.int i :: .ref (pa E a) :: st.map (tr E)))
  rw [pa_at hP.2.1 ha]
  have hq := conc_at (E := E) ha
  have e : va_rf (rv E (fs.getD i.toNatClampNeg .null)) = tr E (.ref q) := by rw [List.getD_eq_getElem?_getD, hv]; rfl
  rcases hc2 with rfl | rfl
  · rw [cE_st] at hq
    refine va_aldq hx hb hK.1 hP.2.2 a 2 hq rfl hi dc ?_
    rw [e]
    exact kk H locs ls hl hP hS
  · rw [cE_row] at hq
    refine va_aldq hx hb hK.1 hP.2.2 a 3 hq rfl hi dc ?_
    rw [e]
    exact kk H locs ls hl hP hS
theorem cpy_iv {fs gs : List Value} {sp dp n : Nat} (h4 : sp + n ≤ fs.length) (h5 : dp + n ≤ gs.length) : va_cpy (fun j => iv (fs.getD j .null)) (fun j => iv (gs.getD j .null)) sp dp n = fun j => iv ((gs.take dp ++ (fs.drop sp).take n ++ gs.drop (dp + n)).getD j .null) := by
  funext j
  show (if dp ≤ j ∧ j < dp + n then iv (fs.getD (sp + (j - dp)) .null) else iv (gs.getD j .null)) = iv ((gs.take dp ++ (fs.drop sp).take n ++ gs.drop (dp + n)).getD j .null)
  rw [List.getD_eq_getElem?_getD, List.getD_eq_getElem?_getD, List.getD_eq_getElem?_getD]
  by_cases c1 : j < dp
  · rw [if_neg (by omega), List.append_assoc, List.getElem?_append_left (by rw [List.length_take]; omega), List.getElem?_take, if_pos c1]
  · by_cases c2 : j < dp + n
    · rw [if_pos ⟨by omega, c2⟩, List.append_assoc, List.getElem?_append_right (by rw [List.length_take]; omega), List.getElem?_append_left (by rw [List.length_take, List.length_take, List.length_drop]; omega), List.length_take, List.getElem?_take, if_pos (by omega), List.getElem?_drop]
      congr 3
      omega
    · rw [if_neg (by omega), List.getElem?_append_right (by rw [List.length_append, List.length_take, List.length_take, List.length_drop]; omega), List.length_append, List.length_take, List.length_take, List.length_drop, List.getElem?_drop]
      congr 3
      omega
set_option maxHeartbeats 1000000 in
theorem R_copy {idx a b : Nat} {sp dp n : Int32} {fs gs : List Value} (hO : OKX X false d M) (dc : decode M.2.1 pc = .ok (.invokestatic idx, 3)) (hd : 0 < d) (hlink : Cond.methodLink M.1.cls idx arraycopyName ∈ TS) (hw : Cond.native arraycopyName ∈ TS ∧ Cond.static arraycopyName ∈ TS ∧ Cond.initialized "java/lang/System" ∈ TS) (ha : h[a]? = some (20, fs)) (hb2 : h[b]? = some (20, gs))
    (h1 : ¬ sp < 0) (h2 : ¬ dp < 0) (h3 : ¬ n < 0) (h4 : sp.toNatClampNeg + n.toNatClampNeg ≤ fs.length) (h5 : dp.toNatClampNeg + n.toNatClampNeg ≤ gs.length) (hs : (st.map fun v => v.category).sum ≤ 8)
    (kk : R X M (pc + 3) L st (h.set b (20, gs.take dp.toNatClampNeg ++ (fs.drop sp.toNatClampNeg).take n.toNatClampNeg ++ gs.drop (dp.toNatClampNeg + n.toNatClampNeg))) cs sl) : R X M pc L (.int n :: .int dp :: .ref b :: .int sp :: .ref a :: st) h cs sl := by
  obtain ⟨p, l, e, Rm, s, m, args, below, meth, c, Q, E⟩ := X
  obtain ⟨hx, hb, hml, hown, hts, hK, hr, hlk, hE, hnm, hrm, hz⟩ := hO
  intro H locs ls hl hP hS
  show W _ _ _ _ _ _ _ _ _ _ _ _ _ _ _ (F0 m pc ls (.int n :: .int dp :: .ref (pa E b) :: .int sp :: .ref (pa E a) :: st.map (tr E)))
  rw [pa_at hP.2.1 ha, pa_at hP.2.1 hb2]
  have hq := conc_at (E := E) ha
  have hq2 := conc_at (E := E) hb2
  rw [cE_int] at hq hq2
  have hnf : nativeFrameWords "java/lang/System" "arraycopy" 5 ≤ 20 := by decide +kernel
  refine va_copyi hx hb (by rw [hml]; exact hl.1.symm) hown (hts _ hlink) (hts _ hw.1) (hts _ hw.2.1) (hts _ hw.2.2) hK.1 hP.2.2 (conc_D h) hS a b 0 0 hq hq2 rfl rfl rfl h1 h2 h3 h4 h5 (fun _ _ => rfl) (by omega) (by rw [tr_catsum]; omega) dc (fun H1 locs1 hP1 hD1 hS1 => ?_)
  refine kk H1 locs1 ls hl (RepH.ns hz (by rw [List.length_set]; exact hP.2.1) ?_) hS1
  have el : gs.length = (gs.take dp.toNatClampNeg ++ (fs.drop sp.toNatClampNeg).take n.toNatClampNeg ++ gs.drop (dp.toNatClampNeg + n.toNatClampNeg)).length := by
    rw [List.length_append, List.length_append, List.length_take, List.length_take, List.length_drop, List.length_drop]
    omega
  rw [cpy_iv h4 h5, el, ← cE_int (E := E), conc_set] at hP1
  exact hP1
/-- what a call site's words are -/
def LKV (own : String) (idx : Nat) (N : MD) : Prop := Cond.methodLink own idx N.1 ∈ TS ∧ Cond.instanceMethod N.1 ∈ TS ∧ Cond.selects N.1.cls N.1 N.1 ∈ TS ∧ Cond.initialized N.1.cls ∈ TS ∧ Cond.code N.1 N.2.1 N.2.2.1 N.2.2.2 ∈ TS ∧ (N.1.cls ≠ "java/lang/invoke/MethodHandle" ∧ N.1.cls ≠ "java/lang/invoke/VarHandle") ∧ N.2.2.1 ≤ 40
def LKS (own : String) (idx : Nat) (N : MD) : Prop := Cond.methodLink own idx N.1 ∈ TS ∧ Cond.static N.1 ∈ TS ∧ Cond.initialized N.1.cls ∈ TS ∧ Cond.code N.1 N.2.1 N.2.2.1 N.2.2.2 ∈ TS ∧ (N.1.cls ≠ "java/lang/invoke/MethodHandle" ∧ N.1.cls ≠ "java/lang/invoke/VarHandle") ∧ N.2.2.1 ≤ 40
def LKN (own : String) (idx : Nat) (N : MD) : Prop := (own, idx, N.1, RX7) ∈ nestL ∧ Cond.static N.1 ∈ TS ∧ Cond.initialized N.1.cls ∈ TS ∧ Cond.code N.1 N.2.1 N.2.2.1 N.2.2.2 ∈ TS ∧ (N.1.cls ≠ "java/lang/invoke/MethodHandle" ∧ N.1.cls ≠ "java/lang/invoke/VarHandle") ∧ N.2.2.1 ≤ 40
theorem GIc {N : MD} (h : Cond.code N.1 N.2.1 N.2.2.1 N.2.2.2 ∈ TS) : GoodIn TS (wsM N) := by
  intro w hw
  rcases List.mem_cons.mp hw with rfl | hw
  · exact TS_good _ h
  · exact TS_good _ hw
theorem R_back {mc ms : Nat} {rest : List Value} {a : Array Value} {Qp : Option Value → AH → Prop} {p : Program} {l : Launch} {e : Env} {Rm : Room} {s : State} {m : MethodId} {args : Array Value} {below : List Frame} {meth : Method} {c : Code} {Q : State → Prop} {E : EE} {H : Heap} {locs : List Loc} {ls : Array Slot} {st0 : List Value}
    (hr : va_Run p l e Rm s m args below meth c H locs cs sl mc ms (F0 m pc ls st0) (rest.map (tr E)) (QcE E Qp a) (mine E)) (hS : va_S (mine E) s.heap H locs)
    (kk : ∀ (v : Option Value) (h' : AH) (H1 : Heap) (locs1 : List Loc), Qp v h' → RepH E h' H1 → va_S (mine E) s.heap H1 locs1 → W p l e Rm s m args below meth c H1 locs1 (cs + mc) (sl + ms) Q (F0 m (pc + 3) ls ((v.toList ++ rest).map (tr E)))) : W p l e Rm s m args below meth c H locs cs sl Q (F0 m pc ls st0) := by
  intro T hT X
  obtain ⟨v, st₀, t, T', L, h0, X', hL, e1, e2, ⟨v2, h', hv, hq, hP', hz, hk⟩, stp⟩ := hr T hT X
  cases hv
  rw [h0] at hz hk
  obtain ⟨t2, a1, b1⟩ := kk v2 h' T'.heap (locs ++ L) hq (by rw [e1]; exact hP')
    ⟨Nat.le_trans hS.1 (by rw [e1]; exact hz), fun q h1 h2 => by rw [e1, hk q (Nat.lt_of_lt_of_le h1 hS.1) h2]; exact hS.2.1 q h1 h2, fun q hq => by
      rcases List.mem_append.mp hq with h | h
      · exact hS.2.2 q h
      · exact hL q h⟩ T' rfl X'
  refine ⟨t2, stp t2 ?_, b1⟩
  have e3 : (v2.map (tr E)).toList ++ rest.map (tr E) = (v2.toList ++ rest).map (tr E) := by
    cases v2 <;> rfl
  show Steps _ _ _ (T'.setTop { F0 m pc ls st0 with pc := pc + 3, stack := _ }) t2
  rw [e3]
  exact a1
set_option maxHeartbeats 1000000 in
theorem R_callV {N : MD} {d2 mc ms idx a ci : Nat} {As rest fs : List Value} {Qp : Option Value → AH → Prop} {q : vw_C} (hO : OKX X z d M) (dc : decode M.2.1 pc = .ok (.invokevirtual idx, 3)) (hM : C z d2 N mc ms (.ref a :: As) h Qp) (hd : d2 < d) (lkv : LKV M.1.cls idx N) (hp : (parseMethodDescriptor N.1.desc).map (fun d => d.parameters.length) = some As.length) (hst : st = As.reverse ++ .ref a :: rest) (hs : (rest.map fun v => v.category).sum ≤ 8)
    (ha : h[a]? = some (ci, fs)) (hc : cls0[ci]? = some q) (hq : q.1 = N.1.cls) (hci : ci < 20) (hcs : ∃ (p : CX), p = X ∧ cs + mc ≤ p.2.2.2.1.cells ∧ sl + ms ≤ p.2.2.2.1.slots)
    (kk : ∀ (v : Option Value) (h' : AH), Qp v h' → R X M (pc + 3) L (v.toList ++ rest) h' (cs + mc) (sl + ms)) : R X M pc L st h cs sl := by
  obtain ⟨p, l, e, Rm, s, m, args, below, meth, c, Q, E⟩ := X
  obtain ⟨hx, hb, hml, hown, hts, hK, hr, hlk, hE, hnm, hrm, hz⟩ := hO
  obtain ⟨w1, w2, w3, w4, w5, w6, w7⟩ := lkv
  obtain ⟨p9, rfl, hcs⟩ := hcs
  subst hst
  intro H locs ls hl hP hS
  have hqa := conc_at (E := E) ha
  rw [cE_obj hci] at hqa
  have hg : GoodIn TS (wsV M.1.cls idx N.1.cls N.1 (wsM N)) := goodIn_c (TS_good _ w1) (goodIn_c (TS_good _ w2) (goodIn_c (TS_good _ w3) (goodIn_c (TS_good _ w4) (GIc w5))))
  have hrecv := va_recv hK.1 hP.2.2 hc hqa
  rw [hq] at hrecv
  have hst2 : ((As.reverse ++ Value.ref a :: rest).map (tr E)) = (As.map (tr E)).reverse ++ .ref (E.2.1 + a) :: rest.map (tr E) := by
    rw [List.map_append, List.map_reverse, List.map_cons]
    show _ ++ Value.ref (pa E a) :: _ = _
    rw [pa_at hP.2.1 ha]
  have hst3 : ((Value.ref a :: As).map (tr E)) = .ref (E.2.1 + a) :: As.map (tr E) := by
    rw [List.map_cons]
    show Value.ref (pa E a) :: _ = _
    rw [pa_at hP.2.1 ha]
  rw [hst2]
  refine R_back (va_runV (As := As.map (tr E)) ⟨hx, hb, hml, hown, hts⟩ (hM l E hz) (cwV As.length hts hg rfl rfl rfl ⟨rfl, w6.1, w6.2, hp⟩ ⟨by show d2 + 1 ≤ _; omega, by show 8 + (N.2.2.1 + 11) + 60 * d2 ≤ _; omega⟩) ⟨PcE.blind _ _ _, hrecv, fun U hU hW => ⟨by rw [hst3], by rw [hU]; exact hP, RepK.go hK hW (fun q h1 h2 => by rw [hU]; exact hS.2.1 q h1 h2), by rw [hU]; exact Nat.le_trans hE hS.1⟩⟩ rfl (by rw [List.length_map]) hl.1 rfl (lv_room (by rw [tr_catsum]; exact hs)) dc hcs) hS (fun v h' H1 locs1 hq1 hP1 hS1 => kk v h' hq1 H1 locs1 ls hl hP1 hS1)
set_option maxHeartbeats 1000000 in
theorem R_callS {N : MD} {d2 mc ms idx : Nat} {As rest : List Value} {Qp : Option Value → AH → Prop} (hO : OKX X z d M) (dc : decode M.2.1 pc = .ok (.invokestatic idx, 3)) (hM : C z d2 N mc ms As h Qp) (hd : d2 < d) (lkv : LKS M.1.cls idx N) (hp : (parseMethodDescriptor N.1.desc).map (fun d => d.parameters.length) = some As.length) (hst : st = As.reverse ++ rest) (hs : (rest.map fun v => v.category).sum ≤ 8)
    (hcs : ∃ (p : CX), p = X ∧ cs + mc ≤ p.2.2.2.1.cells ∧ sl + ms ≤ p.2.2.2.1.slots)
    (kk : ∀ (v : Option Value) (h' : AH), Qp v h' → R X M (pc + 3) L (v.toList ++ rest) h' (cs + mc) (sl + ms)) : R X M pc L st h cs sl := by
  obtain ⟨p, l, e, Rm, s, m, args, below, meth, c, Q, E⟩ := X
  obtain ⟨hx, hb, hml, hown, hts, hK, hr, hlk, hE, hnm, hrm, hz⟩ := hO
  obtain ⟨w1, w2, w4, w5, w6, w7⟩ := lkv
  obtain ⟨p9, rfl, hcs⟩ := hcs
  subst hst
  intro H locs ls hl hP hS
  have hg : GoodIn TS (va_wsS M.1.cls idx N.1 (wsM N)) := goodIn_c (TS_good _ w1) (goodIn_c (TS_good _ w2) (goodIn_c (TS_good _ w4) (GIc w5)))
  rw [List.map_append, List.map_reverse]
  refine R_back (va_runS (As := As.map (tr E)) ⟨hx, hb, hml, hown, hts⟩ (hM l E hz) (va_cwS As.length hts hg rfl rfl rfl ⟨w6.1, w6.2, hp⟩ ⟨by show d2 + 1 ≤ _; omega, by show 8 + (N.2.2.1 + 11) + 60 * d2 ≤ _; omega⟩) ⟨PcE.blind _ _ _, fun U hU hW => ⟨rfl, by rw [hU]; exact hP, RepK.go hK hW (fun q h1 h2 => by rw [hU]; exact hS.2.1 q h1 h2), by rw [hU]; exact Nat.le_trans hE hS.1⟩⟩ rfl (by rw [List.length_map]) hl.1 rfl (lv_room (by rw [tr_catsum]; exact hs)) dc hcs) hS (fun v h' H1 locs1 hq1 hP1 hS1 => kk v h' hq1 H1 locs1 ls hl hP1 hS1)
set_option maxHeartbeats 1000000 in
theorem R_callSN {N : MD} {d2 mc ms idx : Nat} {As rest : List Value} {Qp : Option Value → AH → Prop} (hO : OKX X z d M) (dc : decode M.2.1 pc = .ok (.invokestatic idx, 3)) (hM : C z d2 N mc ms As h Qp) (hd : d2 < d) (lkv : LKN M.1.cls idx N) (hp : (parseMethodDescriptor N.1.desc).map (fun d => d.parameters.length) = some As.length) (hst : st = As.reverse ++ rest) (hs : (rest.map fun v => v.category).sum ≤ 8)
    (hcs : ∃ (p : CX), p = X ∧ cs + mc ≤ p.2.2.2.1.cells ∧ sl + ms ≤ p.2.2.2.1.slots)
    (kk : ∀ (v : Option Value) (h' : AH), Qp v h' → R X M (pc + 3) L (v.toList ++ rest) h' (cs + mc) (sl + ms)) : R X M pc L st h cs sl := by
  obtain ⟨p, l, e, Rm, s, m, args, below, meth, c, Q, E⟩ := X
  obtain ⟨hx, hb, hml, hown, hts, hK, hr, hlk, hE, hnm, hrm, hz⟩ := hO
  obtain ⟨w1, w2, w4, w5, w6, w7⟩ := lkv
  obtain ⟨p9, rfl, hcs⟩ := hcs
  subst hst
  intro H locs ls hl hP hS
  rw [List.map_append, List.map_reverse]
  refine R_back (va_runSN (As := As.map (tr E)) ⟨hx, hb, hml, hown, hts⟩ (hM l E hz) ⟨va_cnB As.length hts (GIc w5) rfl rfl rfl (hK.2.1 _ w1) (hts _ w4) ⟨w6.1, w6.2, hp⟩ ⟨by show d2 + 1 ≤ _; omega, by show 8 + (N.2.2.1 + 11) + 60 * d2 ≤ _; omega⟩, hts _ w2, trivial⟩ ⟨PcE.blind _ _ _, fun U hU hW => ⟨rfl, by rw [hU]; exact hP, RepK.go hK hW (fun q h1 h2 => by rw [hU]; exact hS.2.1 q h1 h2), by rw [hU]; exact Nat.le_trans hE hS.1⟩⟩ rfl (by rw [List.length_map]) hl.1 rfl (lv_room (by rw [tr_catsum]; exact hs)) dc hcs) hS (fun v h' H1 locs1 hq1 hP1 hS1 => kk v h' hq1 H1 locs1 ls hl hP1 hS1)
end HEAP
end
section
/-! THE VIEW: behind the constructors nothing is made any more and references stay: the heap is a fixed shape with numbers in it. SIM: a walk and a function of these numbers, in step. -/
abbrev Mem : Type := Nat → Nat → Int32
def nn (n : Nat) : List (Option Nat) := List.replicate n none
def shSt (b : Nat) : List (Nat × List (Option Nat)) := [(5, [some (b + 1), some (b + 2), some (b + 3), none, none, none, none, none]), (20, nn 8), (20, nn 8), (20, nn 8)]
def shRw (b : Nat) : List (Nat × List (Option Nat)) := [(4, [some (b + 1), none, none, none]), (20, nn 40)]
def sh : List (Nat × List (Option Nat)) :=
  [(7, [some 1, some 2, some 8, some 12, some 13, some 111, some 121, some 157, none, none]), (23, (List.range 8).map fun i => some (159 + 2 * i)), (6, [some 3, none, none, none, some 7])] ++ shSt 3 ++ [(20, nn 100)] ++ shSt 8 ++ [(22, (List.range 2).map fun i => some (175 + 4 * i)), (0, [some 14, none, none]), (22, (List.range 24).map fun i => some (15 + 4 * i))]
  ++ ((List.range 24).flatMap fun i => shSt (15 + 4 * i)) ++ [(2, [some 112, some 116, some 120, none])] ++ shSt 112 ++ shSt 116 ++ [(20, nn 12), (3, [some 122, some 123, some 124, none, none]), (22, (List.range 8).map fun i => some (125 + 4 * i)), (20, nn 7), (20, nn 7)] ++ ((List.range 8).flatMap fun i => shSt (125 + 4 * i)) ++ [(1, [some 158, none, none, none, none, none]), (20, nn 16)] ++ ((List.range 8).flatMap fun i => shRw (159 + 2 * i)) ++ shSt 175 ++ shSt 179
  ++ [(8, [some 184, some 185, some 186, none, none, some 187, some 188, some 189, none, none, none, none, none, none, none, some 190, some 191, none, some 192, some 193, some 194, some 195, some 196, none]), (20, nn 8), (20, nn 8), (20, nn 320), (20, nn 29), (20, nn 40), (20, nn 100), (20, nn 29), (20, nn 696), (20, nn 29), (20, nn 625), (21, nn 2), (20, nn 58), (20, nn 16)]
theorem sh_len : sh.length = 197 := by decide +kernel
def vw (σ : Mem) (p : Nat) (rs : List (Option Nat)) : List Value := rs.mapIdx fun i r => match r with
  | some q => .ref q
  | none => .int (σ p i)
def view (σ : Mem) : AH := sh.mapIdx fun p c => (c.1, vw σ p c.2)
theorem view_at {σ : Mem} {a t : Nat} {rs : List (Option Nat)} (h : sh[a]? = some (t, rs)) : (view σ)[a]? = some (t, vw σ a rs) := by
  unfold view
  rw [List.getElem?_mapIdx, h]
  rfl
theorem vw_len {σ : Mem} {a : Nat} {rs : List (Option Nat)} : (vw σ a rs).length = rs.length := List.length_mapIdx
theorem vw_int {σ : Mem} {a k : Nat} {rs : List (Option Nat)} (h : rs[k]? = some none) : (vw σ a rs)[k]? = some (.int (σ a k)) := by
  unfold vw
  rw [List.getElem?_mapIdx, h]
  rfl
theorem vw_ref {σ : Mem} {a k q : Nat} {rs : List (Option Nat)} (h : rs[k]? = some (some q)) : (vw σ a rs)[k]? = some (.ref q) := by
  unfold vw
  rw [List.getElem?_mapIdx, h]
  rfl
theorem nn_at {n k : Nat} (h : k < n) : (nn n)[k]? = some none := by
  unfold nn
  rw [List.getElem?_replicate, if_pos h]
theorem nn_len {n : Nat} : (nn n).length = n := List.length_replicate
def st2 (σ : Mem) (a k : Nat) (x : Int32) : Mem := fun b => if b = a then upd (σ a) k x else σ b
theorem vw_set {σ : Mem} {a k : Nat} {x : Int32} {rs : List (Option Nat)} (h : rs[k]? = some none) : (vw σ a rs).set k (.int x) = vw (st2 σ a k x) a rs := by
  have hk : k < rs.length := (List.getElem?_eq_some_iff.mp h).1
  unfold vw
  apply List.ext_getElem?
  intro i
  rw [List.getElem?_set, List.getElem?_mapIdx, List.getElem?_mapIdx, List.length_mapIdx]
  by_cases e : k = i
  · subst e
    rw [if_pos rfl, if_pos hk, h]
    simp [st2, upd]
  · rw [if_neg e]
    have e2 : st2 σ a k x a i = σ a i := by
      unfold st2 upd
      rw [if_pos rfl, if_neg (fun q => e q.symm)]
    rw [e2]
theorem vw_cong {σ τ : Mem} {a b : Nat} {rs : List (Option Nat)} (h : ∀ i, i < rs.length → σ a i = τ b i) : vw σ a rs = vw τ b rs := by
  unfold vw
  apply List.ext_getElem?
  intro i
  rw [List.getElem?_mapIdx, List.getElem?_mapIdx]
  by_cases hi : i < rs.length
  · rw [h i hi]
  · rw [List.getElem?_eq_none (by omega)]
    rfl
theorem view_cong {σ τ : Mem} (h : ∀ (a t : Nat) (rs : List (Option Nat)), sh[a]? = some (t, rs) → ∀ i, i < rs.length → σ a i = τ a i) : view σ = view τ := by
  unfold view
  apply List.ext_getElem?
  intro a
  rw [List.getElem?_mapIdx, List.getElem?_mapIdx]
  cases e : sh[a]? with
  | none => rfl
  | some c => exact congrArg some (congrArg (Prod.mk c.1) (vw_cong (h a c.1 c.2 e)))
theorem view_set {σ τ : Mem} {a t : Nat} {rs : List (Option Nat)} (h : sh[a]? = some (t, rs)) (ho : ∀ b, b ≠ a → τ b = σ b) : (view σ).set a (t, vw τ a rs) = view τ := by
  unfold view
  apply List.ext_getElem?
  intro i
  rw [List.getElem?_set, List.getElem?_mapIdx, List.getElem?_mapIdx, List.length_mapIdx]
  by_cases e : a = i
  · subst e
    rw [if_pos rfl, if_pos (List.getElem?_eq_some_iff.mp h).1, h]
    rfl
  · rw [if_neg e]
    cases e3 : sh[i]? with
    | none => rfl
    | some c => exact congrArg some (congrArg (Prod.mk c.1) (vw_cong (fun j _ => by rw [ho i (fun q => e q.symm)])))
theorem st2_other {σ : Mem} {a k : Nat} {x : Int32} : ∀ b, b ≠ a → st2 σ a k x b = σ b := fun _ h => if_neg h
/-- n cells of a from sp on come to b from dp on -/
def cp2 (σ : Mem) (a b sp dp n : Nat) : Mem := fun c => if c = b then va_cpy (σ a) (σ b) sp dp n else σ c
theorem vw_cpy {σ : Mem} {a b sp dp n ra rb : Nat} (h4 : sp + n ≤ ra) (h5 : dp + n ≤ rb) : (vw σ b (nn rb)).take dp ++ ((vw σ a (nn ra)).drop sp).take n ++ (vw σ b (nn rb)).drop (dp + n) = vw (cp2 σ a b sp dp n) b (nn rb) := by
  have la : (vw σ a (nn ra)).length = ra := by rw [vw_len, nn_len]
  have lb : (vw σ b (nn rb)).length = rb := by rw [vw_len, nn_len]
  have ga : ∀ i, i < ra → (vw σ a (nn ra))[i]? = some (.int (σ a i)) := fun i hi => vw_int (nn_at hi)
  have gb : ∀ i, i < rb → (vw σ b (nn rb))[i]? = some (.int (σ b i)) := fun i hi => vw_int (nn_at hi)
  apply List.ext_getElem?
  intro j
  by_cases hj : j < rb
  · rw [vw_int (nn_at hj)]
    have e : cp2 σ a b sp dp n b j = if dp ≤ j ∧ j < dp + n then σ a (sp + (j - dp)) else σ b j := by
      unfold cp2 va_cpy
      rw [if_pos rfl]
    rw [e]
    by_cases c1 : j < dp
    · rw [if_neg (by omega), List.append_assoc, List.getElem?_append_left (by rw [List.length_take, lb]; omega), List.getElem?_take, if_pos c1, gb j hj]
    · by_cases c2 : j < dp + n
      · rw [if_pos ⟨by omega, c2⟩, List.append_assoc, List.getElem?_append_right (by rw [List.length_take, lb]; omega), List.getElem?_append_left (by rw [List.length_take, List.length_take, List.length_drop, la, lb]; omega), List.length_take, lb, List.getElem?_take, if_pos (by omega), List.getElem?_drop, ga _ (by omega)]
        congr 3
        omega
      · rw [if_neg (by omega), List.getElem?_append_right (by rw [List.length_append, List.length_take, List.length_take, List.length_drop, la, lb]; omega), List.length_append, List.length_take, List.length_take, List.length_drop, la, lb, List.getElem?_drop, gb _ (by omega)]
        congr 3
        omega
  · rw [List.getElem?_eq_none (by rw [List.length_append, List.length_append, List.length_take, List.length_take, List.length_drop, List.length_drop, la, lb]; omega), List.getElem?_eq_none (by rw [vw_len, nn_len]; omega)]
/-- the words of the functions that the walks compute -/
def lt {α β : Type} (e : α) (k : α → β) : β := k e
def ing {α : Type} (i : Int32) (n : Nat) (k : Option α) : Option α := if i < 0 ∨ n ≤ i.toNatClampNeg then none else k
def gd {α : Type} (c : Prop) [Decidable c] (k : Option α) : Option α := if c then k else none
def bd {α β : Type} (o : Option α) (k : α → Option β) : Option β := match o with
  | some a => k a
  | none => none
def bd2 {α β γ : Type} (o : Option (α × β)) (k : α → β → Option γ) : Option γ := match o with
  | some q => k q.1 q.2
  | none => none
abbrev wI (q : Int32 × Mem) : Option Value × Mem := (some (.int q.1), q.2)
abbrev wL (q : Int64 × Mem) : Option Value × Mem := (some (.long q.1), q.2)
abbrev wA (q : Nat × Mem) : Option Value × Mem := (some (.ref q.1), q.2)
abbrev wV (q : Mem) : Option Value × Mem := (none, q)
def isSt (b : Nat) : Prop := sh[b]? = some (5, [some (b + 1), some (b + 2), some (b + 3), none, none, none, none, none]) ∧ sh[b + 1]? = some (20, nn 8) ∧ sh[b + 2]? = some (20, nn 8) ∧ sh[b + 3]? = some (20, nn 8)
def isRw (b : Nat) : Prop := sh[b]? = some (4, [some (b + 1), none, none, none]) ∧ sh[b + 1]? = some (20, nn 40)
def SIM {α : Type} (X : CX) (M : MD) (w : α → Option Value × Mem) (Z : Option Value × Mem → Prop) (pc : Nat) (L : AL) (st : List Value) (σ : Mem) (F : Option α) : Prop := ∀ r, F = some r → Z (w r) → R X M pc L st (view σ) 0 0
def CS (d : Nat) (M : MD) (args : List Value) (σ : Mem) (o : Option (Option Value × Mem)) : Prop := ∀ r, o = some r → C false d M 0 0 args (view σ) (fun v h' => v = r.1 ∧ h' = view r.2)
def OKS (X : CX) (Z : Option Value × Mem → Prop) : Prop := OKQ X 0 0 (fun v h' => ∃ τ : Mem, h' = view τ ∧ Z (v, τ))
theorem CS.of {α : Type} {d : Nat} {M : MD} {args : List Value} {σ : Mem} {w : α → Option Value × Mem} {F : Option α} (hy : plainName M.1.cls = true) (hn : (lg_sl args).length ≤ M.2.2.1)
    (k : ∀ (X : CX) (Z : Option Value × Mem → Prop), OKX X false d M → OKS X Z → SIM X M w Z 0 (lv_args 0 args) [] σ F) : CS d M args σ (F.map w) := by
  intro r hr
  cases hF : F with
  | none => rw [hF] at hr; cases hr
  | some r0 =>
    rw [hF] at hr
    cases hr
    refine C.of hy hn (fun X hO hQ => k X (fun q => q = w r0) hO ?_ r0 hF rfl)
    have e : (fun (v : Option Value) (h' : AH) => v = (w r0).1 ∧ h' = view (w r0).2) = (fun v h' => ∃ τ : Mem, h' = view τ ∧ (v, τ) = w r0) := by
      funext v h'
      apply propext
      constructor
      · intro q
        exact ⟨(w r0).2, q.2, Prod.ext q.1 rfl⟩
      · intro q
        obtain ⟨τ, q1, q2⟩ := q
        rw [← q2]
        exact ⟨rfl, q1⟩
    rw [e] at hQ
    exact hQ
theorem CS.none_of {d : Nat} {M : MD} {args : List Value} {σ : Mem} : CS d M args σ none := fun _ h => by cases h
section SIMR
variable {α : Type} {X : CX} {d : Nat} {M : MD} {w : α → Option Value × Mem} {Z : Option Value × Mem → Prop} {pc : Nat} {L : AL} {st : List Value} {σ : Mem} {F F1 F2 : Option α}
theorem S_none : SIM X M w Z pc L st σ none := fun _ h => by cases h
theorem S_ {pc2 : Nat} {L2 : AL} {st2 : List Value} (f : R X M pc2 L2 st2 (view σ) 0 0 → R X M pc L st (view σ) 0 0) (k : SIM X M w Z pc2 L2 st2 σ F) : SIM X M w Z pc L st σ F := fun r h hz => f (k r h hz)
theorem S_getI {idx ci k a : Nat} {ty : FieldType} {fin : Bool} {rs : List (Option Nat)} (hO : OKX X false d M) (dc : decode M.2.1 pc = .ok (.getfield idx, 3)) (fl : FL M.1.cls idx ci k ty fin) (ha : sh[a]? = some (ci, rs)) (hr : rs[k]? = some none) (kk : SIM X M w Z (pc + 3) L (.int (σ a k) :: st) σ F) : SIM X M w Z pc L (.ref a :: st) σ F := fun r h hz => R_getf hO dc fl (view_at ha) (vw_int hr) (kk r h hz)
theorem S_getR {idx ci k a q : Nat} {ty : FieldType} {fin : Bool} {rs : List (Option Nat)} (hO : OKX X false d M) (dc : decode M.2.1 pc = .ok (.getfield idx, 3)) (fl : FL M.1.cls idx ci k ty fin) (ha : sh[a]? = some (ci, rs)) (hr : rs[k]? = some (some q)) (kk : SIM X M w Z (pc + 3) L (.ref q :: st) σ F) : SIM X M w Z pc L (.ref a :: st) σ F := fun r h hz => R_getf hO dc fl (view_at ha) (vw_ref hr) (kk r h hz)
theorem S_put {idx ci k a : Nat} {x : Int32} {rs : List (Option Nat)} {K : Mem → Option α} (hO : OKX X false d M) (dc : decode M.2.1 pc = .ok (.putfield idx, 3)) (fl : FL M.1.cls idx ci k .int false) (ha : sh[a]? = some (ci, rs)) (hr : rs[k]? = some none) (kk : ∀ τ, SIM X M w Z (pc + 3) L st τ (K τ)) : SIM X M w Z pc L (.int x :: .ref a :: st) σ (lt (st2 σ a k x) K) := fun r h hz => R_putf hO dc fl (view_at ha) (by rw [vw_len]; exact (List.getElem?_eq_some_iff.mp hr).1) rfl rfl (fun _ => rfl) (by rw [vw_set hr, view_set ha st2_other]; exact kk _ r h hz)
theorem S_putZ {idx ci k a : Nat} {x : Int32} {rs : List (Option Nat)} {K : Mem → Option α} (hO : OKX X false d M) (dc : decode M.2.1 pc = .ok (.putfield idx, 3)) (fl : FL M.1.cls idx ci k .boolean false) (hx : x = 0 ∨ x = 1) (ha : sh[a]? = some (ci, rs)) (hr : rs[k]? = some none) (kk : ∀ τ, SIM X M w Z (pc + 3) L st τ (K τ)) : SIM X M w Z pc L (.int x :: .ref a :: st) σ (lt (st2 σ a k x) K) := fun r h hz => R_putf hO dc fl (view_at ha) (by rw [vw_len]; exact (List.getElem?_eq_some_iff.mp hr).1) (by rcases hx with rfl | rfl <;> rfl) (by rcases hx with rfl | rfl <;> rfl) (fun _ => rfl) (by rw [vw_set hr, view_set ha st2_other]; exact kk _ r h hz)
theorem ing_in {i : Int32} {n : Nat} {r : α} (h : ing i n F = some r) : (¬ (i < 0 ∨ n ≤ i.toNatClampNeg)) ∧ F = some r := by
  unfold ing at h
  by_cases c : i < 0 ∨ n ≤ i.toNatClampNeg
  · rw [if_pos c] at h; cases h
  · rw [if_neg c] at h; exact ⟨c, h⟩
theorem in_lt {i : Int32} {n : Nat} (h : ¬ (i < 0 ∨ n ≤ i.toNatClampNeg)) : i.toNatClampNeg < n := Nat.not_le.mp fun q => h (Or.inr q)
theorem S_iald {a n : Nat} {i : Int32} (hO : OKX X false d M) (dc : decode M.2.1 pc = .ok (.iaload, 1)) (ha : sh[a]? = some (20, nn n)) (kk : SIM X M w Z (pc + 1) L (.int (σ a i.toNatClampNeg) :: st) σ F) : SIM X M w Z pc L (.int i :: .ref a :: st) σ (ing i n F) := fun r h hz => R_iald hO dc (view_at ha) (by rw [vw_len, nn_len]; exact (ing_in h).1) (vw_int (nn_at (in_lt (ing_in h).1))) (kk r (ing_in h).2 hz)
theorem S_zald {a n : Nat} {i : Int32} (hO : OKX X false d M) (dc : decode M.2.1 pc = .ok (.baload, 1)) (ha : sh[a]? = some (21, nn n)) (kk : SIM X M w Z (pc + 1) L (.int (σ a i.toNatClampNeg) :: st) σ F) : SIM X M w Z pc L (.int i :: .ref a :: st) σ (ing i n F) := fun r h hz => R_zald hO dc (view_at ha) (by rw [vw_len, nn_len]; exact (ing_in h).1) (vw_int (nn_at (in_lt (ing_in h).1))) (kk r (ing_in h).2 hz)
theorem S_iast {a n : Nat} {i x : Int32} {K : Mem → Option α} (hO : OKX X false d M) (dc : decode M.2.1 pc = .ok (.iastore, 1)) (ha : sh[a]? = some (20, nn n)) (kk : ∀ τ, SIM X M w Z (pc + 1) L st τ (K τ)) : SIM X M w Z pc L (.int x :: .int i :: .ref a :: st) σ (ing i n (lt (st2 σ a i.toNatClampNeg x) K)) := fun r h hz => R_iast hO dc (view_at ha) (by rw [vw_len, nn_len]; exact (ing_in h).1) (by rw [vw_set (nn_at (in_lt (ing_in h).1)), view_set ha st2_other]; exact kk _ r (ing_in h).2 hz)
theorem S_zast {a n : Nat} {i : Int32} {K : Mem → Option α} (hO : OKX X false d M) (dc : decode M.2.1 pc = .ok (.bastore, 1)) (ha : sh[a]? = some (21, nn n)) (kk : ∀ τ, SIM X M w Z (pc + 1) L st τ (K τ)) : SIM X M w Z pc L (.int 1 :: .int i :: .ref a :: st) σ (ing i n (lt (st2 σ a i.toNatClampNeg 1) K)) := fun r h hz => R_zast hO dc (view_at ha) (by rw [vw_len, nn_len]; exact (ing_in h).1) (by rw [vw_set (nn_at (in_lt (ing_in h).1)), view_set ha st2_other]; exact kk _ r (ing_in h).2 hz)
theorem S_aald {a n c2 b0 s0 : Nat} {i : Int32} (hO : OKX X false d M) (dc : decode M.2.1 pc = .ok (.aaload, 1)) (hc2 : c2 = 22 ∨ c2 = 23) (ha : sh[a]? = some (c2, (List.range n).map fun i => some (b0 + s0 * i))) (kk : i.toNatClampNeg < n → SIM X M w Z (pc + 1) L (.ref (b0 + s0 * i.toNatClampNeg) :: st) σ F) : SIM X M w Z pc L (.int i :: .ref a :: st) σ (ing i n F) := fun r h hz => R_aald hO dc hc2 (view_at ha) (by rw [vw_len, List.length_map, List.length_range]; exact (ing_in h).1) (vw_ref (by rw [List.getElem?_map, List.getElem?_range (in_lt (ing_in h).1)]; rfl)) (kk (in_lt (ing_in h).1) r (ing_in h).2 hz)
/-- System.arraycopy of ints -/
def cpg (σ : Mem) (a b : Nat) (sp dp n : Int32) (na nb : Nat) (K : Mem → Option α) : Option α := if (¬ sp < 0) ∧ (¬ dp < 0) ∧ (¬ n < 0) ∧ sp.toNatClampNeg + n.toNatClampNeg ≤ na ∧ dp.toNatClampNeg + n.toNatClampNeg ≤ nb then K (cp2 σ a b sp.toNatClampNeg dp.toNatClampNeg n.toNatClampNeg) else none
theorem cp2_other {a b sp dp n : Nat} : ∀ c, c ≠ b → cp2 σ a b sp dp n c = σ c := fun _ h => if_neg h
theorem S_copy {idx a b na nb : Nat} {sp dp n : Int32} {K : Mem → Option α} (hO : OKX X false d M) (dc : decode M.2.1 pc = .ok (.invokestatic idx, 3)) (hd : 0 < d) (hlink : Cond.methodLink M.1.cls idx arraycopyName ∈ TS) (hw : Cond.native arraycopyName ∈ TS ∧ Cond.static arraycopyName ∈ TS ∧ Cond.initialized "java/lang/System" ∈ TS) (ha : sh[a]? = some (20, nn na)) (hb : sh[b]? = some (20, nn nb)) (hs : (st.map fun v => v.category).sum ≤ 8) (kk : ∀ τ, SIM X M w Z (pc + 3) L st τ (K τ)) : SIM X M w Z pc L (.int n :: .int dp :: .ref b :: .int sp :: .ref a :: st) σ (cpg σ a b sp dp n na nb K) := by
  intro r h hz
  unfold cpg at h
  by_cases c : (¬ sp < 0) ∧ (¬ dp < 0) ∧ (¬ n < 0) ∧ sp.toNatClampNeg + n.toNatClampNeg ≤ na ∧ dp.toNatClampNeg + n.toNatClampNeg ≤ nb
  · rw [if_pos c] at h
    obtain ⟨c1, c2, c3, c4, c5⟩ := c
    refine R_copy hO dc hd hlink hw (view_at ha) (view_at hb) c1 c2 c3 (by rw [vw_len, nn_len]; exact c4) (by rw [vw_len, nn_len]; exact c5) hs ?_
    rw [vw_cpy c4 c5, view_set hb cp2_other]
    exact kk _ r h hz
  · rw [if_neg c] at h; cases h
/-- a store names what it stores -/
theorem S_lt {β : Type} {e : β} {K : β → Option α} (k : ∀ x, SIM X M w Z pc L st σ (K x) → True) (kk : SIM X M w Z pc L st σ (K e)) : SIM X M w Z pc L st σ (lt e K) := kk
theorem S_istore {i : Nat} {x : Int32} {L2 : Int32 → AL} {K : Int32 → Option α} (hO : OKX X false d M) (dc : decode M.2.1 pc = .ok (.istore i, 2)) (hi : i < M.2.2.1) (hg : ∀ y, sto1 i (.int y) L = L2 y) (kk : ∀ y, SIM X M w Z (pc + 2) (L2 y) st σ (K y)) : SIM X M w Z pc L (.int x :: st) σ (lt x K) := fun r h hz => R_istore hO dc hi (hg x) (kk x r h hz)
theorem S_istore_n {j : Fin 4} {x : Int32} {L2 : Int32 → AL} {K : Int32 → Option α} (hO : OKX X false d M) (dc : decode M.2.1 pc = .ok (.istore_n j, 1)) (hi : (j : Nat) < M.2.2.1) (hg : ∀ y, sto1 (j : Nat) (.int y) L = L2 y) (kk : ∀ y, SIM X M w Z (pc + 1) (L2 y) st σ (K y)) : SIM X M w Z pc L (.int x :: st) σ (lt x K) := fun r h hz => R_istore_n hO dc hi (hg x) (kk x r h hz)
theorem S_lstore {i : Nat} {x : Int64} {L2 : Int64 → AL} {K : Int64 → Option α} (hO : OKX X false d M) (dc : decode M.2.1 pc = .ok (.lstore i, 2)) (hi : i + 1 < M.2.2.1) (hg : ∀ y, sto2 i (.long y) L = L2 y) (kk : ∀ y, SIM X M w Z (pc + 2) (L2 y) st σ (K y)) : SIM X M w Z pc L (.long x :: st) σ (lt x K) := fun r h hz => R_lstore hO dc hi (hg x) (kk x r h hz)
theorem S_lstore_n {j : Fin 4} {x : Int64} {L2 : Int64 → AL} {K : Int64 → Option α} (hO : OKX X false d M) (dc : decode M.2.1 pc = .ok (.lstore_n j, 1)) (hi : (j : Nat) + 1 < M.2.2.1) (hg : ∀ y, sto2 (j : Nat) (.long y) L = L2 y) (kk : ∀ y, SIM X M w Z (pc + 1) (L2 y) st σ (K y)) : SIM X M w Z pc L (.long x :: st) σ (lt x K) := fun r h hz => R_lstore_n hO dc hi (hg x) (kk x r h hz)
theorem S_iinc {i : Nat} {n : Int} {x v : Int32} {L2 : Int32 → AL} {K : Int32 → Option α} (hO : OKX X false d M) (dc : decode M.2.1 pc = .ok (.iinc i n, 3)) (hx : lk L i = some (.int x)) (hv : Int32.ofInt n = v) (hi : i < M.2.2.1) (hg : ∀ y, sto1 i (.int y) L = L2 y) (kk : ∀ y, SIM X M w Z (pc + 3) (L2 y) st σ (K y)) : SIM X M w Z pc L st σ (lt (x + v) K) := fun r h hz => R_iinc hO dc hx (by rw [hv]) hi (hg _) (kk _ r h hz)
theorem S_idiv {x y : Int32} (hO : OKX X false d M) (dc : decode M.2.1 pc = .ok (.idiv, 1)) (k : SIM X M w Z (pc + 1) L (.int (x / y) :: st) σ F) : SIM X M w Z pc L (.int y :: .int x :: st) σ (gd (¬ y = 0) F) := by
  intro r h hz
  unfold gd at h
  by_cases c : ¬ y = 0
  · rw [if_pos c] at h; exact R_idiv hO dc c (k r h hz)
  · rw [if_neg c] at h; cases h
theorem S_irem {x y : Int32} (hO : OKX X false d M) (dc : decode M.2.1 pc = .ok (.irem, 1)) (k : SIM X M w Z (pc + 1) L (.int (x - x / y * y) :: st) σ F) : SIM X M w Z pc L (.int y :: .int x :: st) σ (gd (¬ y = 0) F) := by
  intro r h hz
  unfold gd at h
  by_cases c : ¬ y = 0
  · rw [if_pos c] at h; exact R_irem hO dc c (k r h hz)
  · rw [if_neg c] at h; cases h
theorem S_ldiv {x y : Int64} (hO : OKX X false d M) (dc : decode M.2.1 pc = .ok (.ldiv, 1)) (k : SIM X M w Z (pc + 1) L (.long (x / y) :: st) σ F) : SIM X M w Z pc L (.long y :: .long x :: st) σ (gd (¬ y = 0) F) := by
  intro r h hz
  unfold gd at h
  by_cases c : ¬ y = 0
  · rw [if_pos c] at h; exact R_ldiv hO dc c (k r h hz)
  · rw [if_neg c] at h; cases h
theorem S_lrem {x y : Int64} (hO : OKX X false d M) (dc : decode M.2.1 pc = .ok (.lrem, 1)) (k : SIM X M w Z (pc + 1) L (.long (x - x / y * y) :: st) σ F) : SIM X M w Z pc L (.long y :: .long x :: st) σ (gd (¬ y = 0) F) := by
  intro r h hz
  unfold gd at h
  by_cases c : ¬ y = 0
  · rw [if_pos c] at h; exact R_lrem hO dc c (k r h hz)
  · rw [if_neg c] at h; cases h
theorem S_ite {c : Prop} [Decidable c] (kt : c → SIM X M w Z pc L st σ F1) (kf : ¬ c → SIM X M w Z pc L st σ F2) : SIM X M w Z pc L st σ (if c then F1 else F2) := by
  by_cases h : c
  · rw [if_pos h]; exact kt h
  · rw [if_neg h]; exact kf h
theorem S_icmp_eq {x y : Int32} {off : Int} {tgt : Nat} (hO : OKX X false d M) (dc : decode M.2.1 pc = .ok (.if_icmp .eq off, 3)) (ht : (pc : Int) + off = (tgt : Int)) (kf : SIM X M w Z (pc + 3) L st σ F2) (kt : SIM X M w Z tgt L st σ F1) : SIM X M w Z pc L (.int y :: .int x :: st) σ (if x = y then F1 else F2) := fun r h hz => R_icmp_eq hO dc ht (fun c => kt r (by rw [if_pos c] at h; exact h) hz) (fun c => kf r (by rw [if_neg c] at h; exact h) hz)
theorem S_icmp_ne {x y : Int32} {off : Int} {tgt : Nat} (hO : OKX X false d M) (dc : decode M.2.1 pc = .ok (.if_icmp .ne off, 3)) (ht : (pc : Int) + off = (tgt : Int)) (kf : SIM X M w Z (pc + 3) L st σ F1) (kt : SIM X M w Z tgt L st σ F2) : SIM X M w Z pc L (.int y :: .int x :: st) σ (if x = y then F1 else F2) := fun r h hz => R_icmp_ne hO dc ht (fun c => kt r (by rw [if_neg c] at h; exact h) hz) (fun c => kf r (by rw [if_pos c] at h; exact h) hz)
theorem S_icmp_lt {x y : Int32} {off : Int} {tgt : Nat} (hO : OKX X false d M) (dc : decode M.2.1 pc = .ok (.if_icmp .lt off, 3)) (ht : (pc : Int) + off = (tgt : Int)) (kf : SIM X M w Z (pc + 3) L st σ F2) (kt : SIM X M w Z tgt L st σ F1) : SIM X M w Z pc L (.int y :: .int x :: st) σ (if x < y then F1 else F2) := fun r h hz => R_icmp_lt hO dc ht (fun c => kt r (by rw [if_pos c] at h; exact h) hz) (fun c => kf r (by rw [if_neg c] at h; exact h) hz)
theorem S_icmp_ge {x y : Int32} {off : Int} {tgt : Nat} (hO : OKX X false d M) (dc : decode M.2.1 pc = .ok (.if_icmp .ge off, 3)) (ht : (pc : Int) + off = (tgt : Int)) (kf : SIM X M w Z (pc + 3) L st σ F2) (kt : SIM X M w Z tgt L st σ F1) : SIM X M w Z pc L (.int y :: .int x :: st) σ (if y ≤ x then F1 else F2) := fun r h hz => R_icmp_ge hO dc ht (fun c => kt r (by rw [if_pos c] at h; exact h) hz) (fun c => kf r (by rw [if_neg c] at h; exact h) hz)
theorem S_icmp_gt {x y : Int32} {off : Int} {tgt : Nat} (hO : OKX X false d M) (dc : decode M.2.1 pc = .ok (.if_icmp .gt off, 3)) (ht : (pc : Int) + off = (tgt : Int)) (kf : SIM X M w Z (pc + 3) L st σ F2) (kt : SIM X M w Z tgt L st σ F1) : SIM X M w Z pc L (.int y :: .int x :: st) σ (if y < x then F1 else F2) := fun r h hz => R_icmp_gt hO dc ht (fun c => kt r (by rw [if_pos c] at h; exact h) hz) (fun c => kf r (by rw [if_neg c] at h; exact h) hz)
theorem S_icmp_le {x y : Int32} {off : Int} {tgt : Nat} (hO : OKX X false d M) (dc : decode M.2.1 pc = .ok (.if_icmp .le off, 3)) (ht : (pc : Int) + off = (tgt : Int)) (kf : SIM X M w Z (pc + 3) L st σ F2) (kt : SIM X M w Z tgt L st σ F1) : SIM X M w Z pc L (.int y :: .int x :: st) σ (if x ≤ y then F1 else F2) := fun r h hz => R_icmp_le hO dc ht (fun c => kt r (by rw [if_pos c] at h; exact h) hz) (fun c => kf r (by rw [if_neg c] at h; exact h) hz)
theorem S_if_eq {x : Int32} {off : Int} {tgt : Nat} (hO : OKX X false d M) (dc : decode M.2.1 pc = .ok (.ifCond .eq off, 3)) (ht : (pc : Int) + off = (tgt : Int)) (kf : SIM X M w Z (pc + 3) L st σ F2) (kt : SIM X M w Z tgt L st σ F1) : SIM X M w Z pc L (.int x :: st) σ (if x = 0 then F1 else F2) := fun r h hz => R_if_eq hO dc ht (fun c => kt r (by rw [if_pos c] at h; exact h) hz) (fun c => kf r (by rw [if_neg c] at h; exact h) hz)
theorem S_if_ne {x : Int32} {off : Int} {tgt : Nat} (hO : OKX X false d M) (dc : decode M.2.1 pc = .ok (.ifCond .ne off, 3)) (ht : (pc : Int) + off = (tgt : Int)) (kf : SIM X M w Z (pc + 3) L st σ F1) (kt : SIM X M w Z tgt L st σ F2) : SIM X M w Z pc L (.int x :: st) σ (if x = 0 then F1 else F2) := fun r h hz => R_if_ne hO dc ht (fun c => kt r (by rw [if_neg c] at h; exact h) hz) (fun c => kf r (by rw [if_pos c] at h; exact h) hz)
theorem S_if_lt {x : Int32} {off : Int} {tgt : Nat} (hO : OKX X false d M) (dc : decode M.2.1 pc = .ok (.ifCond .lt off, 3)) (ht : (pc : Int) + off = (tgt : Int)) (kf : SIM X M w Z (pc + 3) L st σ F2) (kt : SIM X M w Z tgt L st σ F1) : SIM X M w Z pc L (.int x :: st) σ (if x < 0 then F1 else F2) := fun r h hz => R_if_lt hO dc ht (fun c => kt r (by rw [if_pos c] at h; exact h) hz) (fun c => kf r (by rw [if_neg c] at h; exact h) hz)
theorem S_if_ge {x : Int32} {off : Int} {tgt : Nat} (hO : OKX X false d M) (dc : decode M.2.1 pc = .ok (.ifCond .ge off, 3)) (ht : (pc : Int) + off = (tgt : Int)) (kf : SIM X M w Z (pc + 3) L st σ F2) (kt : SIM X M w Z tgt L st σ F1) : SIM X M w Z pc L (.int x :: st) σ (if 0 ≤ x then F1 else F2) := fun r h hz => R_if_ge hO dc ht (fun c => kt r (by rw [if_pos c] at h; exact h) hz) (fun c => kf r (by rw [if_neg c] at h; exact h) hz)
theorem S_if_gt {x : Int32} {off : Int} {tgt : Nat} (hO : OKX X false d M) (dc : decode M.2.1 pc = .ok (.ifCond .gt off, 3)) (ht : (pc : Int) + off = (tgt : Int)) (kf : SIM X M w Z (pc + 3) L st σ F2) (kt : SIM X M w Z tgt L st σ F1) : SIM X M w Z pc L (.int x :: st) σ (if 0 < x then F1 else F2) := fun r h hz => R_if_gt hO dc ht (fun c => kt r (by rw [if_pos c] at h; exact h) hz) (fun c => kf r (by rw [if_neg c] at h; exact h) hz)
theorem S_if_le {x : Int32} {off : Int} {tgt : Nat} (hO : OKX X false d M) (dc : decode M.2.1 pc = .ok (.ifCond .le off, 3)) (ht : (pc : Int) + off = (tgt : Int)) (kf : SIM X M w Z (pc + 3) L st σ F2) (kt : SIM X M w Z tgt L st σ F1) : SIM X M w Z pc L (.int x :: st) σ (if x ≤ 0 then F1 else F2) := fun r h hz => R_if_le hO dc ht (fun c => kt r (by rw [if_pos c] at h; exact h) hz) (fun c => kf r (by rw [if_neg c] at h; exact h) hz)
/-- a table of ways -/
def swi (x : Int32) (lo : Int) (n : Nat) (f : Nat → Option α) (g : Option α) : Option α := if x.toInt < lo ∨ lo + n ≤ x.toInt then g else f (x.toInt - lo).toNat
theorem S_tsw {dflt lo hi : Int} {offs : Array Int} {len n : Nat} {x : Int32} {f : Nat → Option α} {g : Option α} {tgt : Nat → Nat} {tgd : Nat} (hO : OKX X false d M) (dc : decode M.2.1 pc = .ok (.tableswitch dflt lo hi offs, len)) (hn : hi + 1 = lo + (n : Int)) (ho : ∀ j, j < n → ∃ off, offs[j]? = some off ∧ (pc : Int) + off = (tgt j : Int)) (hd : (pc : Int) + dflt = (tgd : Int)) (kf : SIM X M w Z tgd L st σ g) (kt : ∀ j, j < n → SIM X M w Z (tgt j) L st σ (f j)) : SIM X M w Z pc L (.int x :: st) σ (swi x lo n f g) := by
  intro r h hz
  unfold swi at h
  refine R_tsw hO dc (fun j off h1 h2 h3 => ?_) (fun j hj => ?_) hd (fun c => ?_)
  · have hj : j < n := by omega
    obtain ⟨off2, e1, e2⟩ := ho j hj
    rw [h1] at e1
    cases e1
    refine ⟨tgt j, e2, kt j hj r ?_ hz⟩
    have e4 : (x.toInt - lo).toNat = j := by omega
    rw [if_neg (by omega), e4] at h
    exact h
  · obtain ⟨off2, e1, e2⟩ := ho j (by omega)
    exact ⟨off2, e1⟩
  · refine kf r ?_ hz
    rw [if_pos (by omega)] at h
    exact h
theorem S_sub {L2 : AL} (ks : List Nat) (hl : ks.filterMap (fun k => L[k]?) = L2) (kk : SIM X M w Z pc L2 st σ F) : SIM X M w Z pc L st σ F := fun r h hz => R_sub ks hl (kk r h hz)
def imax (x y : Int32) : Int32 := if x < y then y else x
def imin (x y : Int32) : Int32 := if y < x then y else x
theorem S_max {idx : Nat} {x y : Int32} (hO : OKX X false d M) (dc : decode M.2.1 pc = .ok (.invokestatic idx, 3)) (hd : 0 < d) (hlink : Cond.methodLink M.1.cls idx Lib.Math.max.name ∈ TS) (hw : Cond.static Lib.Math.max.name ∈ TS ∧ Cond.initialized "java/lang/Math" ∈ TS ∧ Cond.code Lib.Math.max.name Lib.Math.max.code 2 (some .int) ∈ TS) (hs : (st.map fun v => v.category).sum ≤ 8) (kk : SIM X M w Z (pc + 3) L (.int (imax x y) :: st) σ F) : SIM X M w Z pc L (.int y :: .int x :: st) σ F := fun r h hz => R_mmax hO dc hd hlink hw hs (kk r h hz)
theorem S_min {idx : Nat} {x y : Int32} (hO : OKX X false d M) (dc : decode M.2.1 pc = .ok (.invokestatic idx, 3)) (hd : 0 < d) (hlink : Cond.methodLink M.1.cls idx Lib.Math.min.name ∈ TS) (hw : Cond.static Lib.Math.min.name ∈ TS ∧ Cond.initialized "java/lang/Math" ∈ TS ∧ Cond.code Lib.Math.min.name Lib.Math.min.code 2 (some .int) ∈ TS) (hs : (st.map fun v => v.category).sum ≤ 8) (kk : SIM X M w Z (pc + 3) L (.int (imin x y) :: st) σ F) : SIM X M w Z pc L (.int y :: .int x :: st) σ F := fun r h hz => R_mmin hO dc hd hlink hw hs (kk r h hz)
abbrev wR (p : Nat) (q : Mem) : Option Value × Mem := (some (.ref p), q)
theorem S_rret {x p : Nat} {nm : String} {w' : Mem → Option Value × Mem} (hw : w' = wR p) {Z : Option Value × Mem → Prop} (hO : OKX X false d M) (hQ : OKS X Z) (dc : decode M.2.1 pc = .ok (.areturn, 1)) (ht : M.2.2.2 = some (.object nm)) (hx : x = p) : SIM X M w' Z pc L [.ref x] σ (some σ) := by
  intro r h hz
  cases h
  subst hw
  subst hx
  exact R_aret hO hQ dc ht ⟨σ, rfl, hz⟩
theorem S_name {β : Type} {K : β → Option α} {e : β} (kk : ∀ x, SIM X M w Z pc L st σ (K x)) : SIM X M w Z pc L st σ (lt e K) := kk e
theorem S_iret {x : Int32} {w' : Int32 × Mem → Option Value × Mem} (hw : w' = wI) {Z : Option Value × Mem → Prop} (hO : OKX X false d M) (hQ : OKS X Z) (dc : decode M.2.1 pc = .ok (.ireturn, 1)) (ht : M.2.2.2 = some .int) : SIM X M w' Z pc L [.int x] σ (some (x, σ)) := by
  intro r h hz
  cases h
  subst hw
  exact R_iret hO hQ dc ht ⟨σ, rfl, hz⟩
theorem S_zret0 {x : Int32} {w' : Int32 × Mem → Option Value × Mem} (hw : w' = wI) {Z : Option Value × Mem → Prop} (hO : OKX X false d M) (hQ : OKS X Z) (dc : decode M.2.1 pc = .ok (.ireturn, 1)) (ht : M.2.2.2 = some .boolean) (hx : x = 0 ∨ x = 1) : SIM X M w' Z pc L [.int x] σ (some (x, σ)) := by
  intro r h hz
  cases h
  subst hw
  exact R_zret hO hQ dc ht hx ⟨σ, rfl, hz⟩
theorem S_zret {x : Int32} {w' : Int32 × Mem → Option Value × Mem} (hw : w' = wI) {Z : Option Value × Mem → Prop} (hO : OKX X false d M) (hQ : OKS X Z) (dc : decode M.2.1 pc = .ok (.ireturn, 1)) (ht : M.2.2.2 = some .boolean) : SIM X M w' Z pc L [.int x] σ (gd (x = 0 ∨ x = 1) (some (x, σ))) := by
  intro r h hz
  unfold gd at h
  by_cases c : x = 0 ∨ x = 1
  · rw [if_pos c] at h
    cases h
    subst hw
    exact R_zret hO hQ dc ht c ⟨σ, rfl, hz⟩
  · rw [if_neg c] at h; cases h
theorem S_lret {x : Int64} {w' : Int64 × Mem → Option Value × Mem} (hw : w' = wL) {Z : Option Value × Mem → Prop} (hO : OKX X false d M) (hQ : OKS X Z) (dc : decode M.2.1 pc = .ok (.lreturn, 1)) (ht : M.2.2.2 = some .long) : SIM X M w' Z pc L [.long x] σ (some (x, σ)) := by
  intro r h hz
  cases h
  subst hw
  exact R_lret hO hQ dc ht ⟨σ, rfl, hz⟩
theorem S_aret {x : Nat} {nm : String} {w' : Nat × Mem → Option Value × Mem} (hw : w' = wA) {Z : Option Value × Mem → Prop} (hO : OKX X false d M) (hQ : OKS X Z) (dc : decode M.2.1 pc = .ok (.areturn, 1)) (ht : M.2.2.2 = some (.object nm)) : SIM X M w' Z pc L [.ref x] σ (some (x, σ)) := by
  intro r h hz
  cases h
  subst hw
  exact R_aret hO hQ dc ht ⟨σ, rfl, hz⟩
theorem S_vret {w' : Mem → Option Value × Mem} (hw : w' = wV) {Z : Option Value × Mem → Prop} (hO : OKX X false d M) (hQ : OKS X Z) (dc : decode M.2.1 pc = .ok (.return_, 1)) (ht : M.2.2.2 = none) : SIM X M w' Z pc L [] σ (some σ) := by
  intro r h hz
  cases h
  subst hw
  exact R_vret hO hQ dc ht ⟨σ, rfl, hz⟩
/-- a receiver -/
def RC (a : Nat) (N : MD) : Prop := ∃ (ci : Nat) (rs : List (Option Nat)) (q : vw_C), sh[a]? = some (ci, rs) ∧ cls0[ci]? = some q ∧ q.1 = N.1.cls ∧ ci < 20
def np (N : MD) (n : Nat) : Prop := (parseMethodDescriptor N.1.desc).map (fun d => d.parameters.length) = some n
theorem S_callVI {N : MD} {d2 idx : Nat} {a : Nat} {As rest : List Value} {G : Option (Int32 × Mem)} {K : Int32 → Mem → Option α} (hO : OKX X false d M) (dc : decode M.2.1 pc = .ok (.invokevirtual idx, 3)) (hM : CS d2 N (.ref a :: As) σ (G.map wI)) (hd : d2 < d) (lkv : LKV M.1.cls idx N) (hp : np N As.length) (rc : RC a N) (hst : st = As.reverse ++ .ref a :: rest) (hs : (rest.map fun v => v.category).sum ≤ 8) (kk : ∀ x τ, SIM X M w Z (pc + 3) L (.int x :: rest) τ (K x τ)) : SIM X M w Z pc L st σ (bd2 G K) := by
  intro r h hz
  cases hG : G with
  | none => rw [hG] at h; cases h
  | some q =>
    rw [hG] at h hM
    obtain ⟨ci, rs, vc, r1, r2, r3, r4⟩ := rc
    refine R_callV hO dc (hM _ rfl) hd lkv hp hst hs (view_at r1) r2 r3 r4 ⟨X, rfl, Nat.zero_le _, Nat.zero_le _⟩ (fun v h' hv => ?_)
    obtain ⟨hv1, hv2⟩ := hv
    rw [hv1, hv2]
    exact kk q.1 q.2 r h hz
theorem S_callVL {N : MD} {d2 idx : Nat} {a : Nat} {As rest : List Value} {G : Option (Int64 × Mem)} {K : Int64 → Mem → Option α} (hO : OKX X false d M) (dc : decode M.2.1 pc = .ok (.invokevirtual idx, 3)) (hM : CS d2 N (.ref a :: As) σ (G.map wL)) (hd : d2 < d) (lkv : LKV M.1.cls idx N) (hp : np N As.length) (rc : RC a N) (hst : st = As.reverse ++ .ref a :: rest) (hs : (rest.map fun v => v.category).sum ≤ 8) (kk : ∀ x τ, SIM X M w Z (pc + 3) L (.long x :: rest) τ (K x τ)) : SIM X M w Z pc L st σ (bd2 G K) := by
  intro r h hz
  cases hG : G with
  | none => rw [hG] at h; cases h
  | some q =>
    rw [hG] at h hM
    obtain ⟨ci, rs, vc, r1, r2, r3, r4⟩ := rc
    refine R_callV hO dc (hM _ rfl) hd lkv hp hst hs (view_at r1) r2 r3 r4 ⟨X, rfl, Nat.zero_le _, Nat.zero_le _⟩ (fun v h' hv => ?_)
    obtain ⟨hv1, hv2⟩ := hv
    rw [hv1, hv2]
    exact kk q.1 q.2 r h hz
theorem S_callVA {N : MD} {d2 idx : Nat} {a : Nat} {As rest : List Value} {G : Option (Nat × Mem)} {K : Nat → Mem → Option α} (hO : OKX X false d M) (dc : decode M.2.1 pc = .ok (.invokevirtual idx, 3)) (hM : CS d2 N (.ref a :: As) σ (G.map wA)) (hd : d2 < d) (lkv : LKV M.1.cls idx N) (hp : np N As.length) (rc : RC a N) (hst : st = As.reverse ++ .ref a :: rest) (hs : (rest.map fun v => v.category).sum ≤ 8) (kk : ∀ x τ, SIM X M w Z (pc + 3) L (.ref x :: rest) τ (K x τ)) : SIM X M w Z pc L st σ (bd2 G K) := by
  intro r h hz
  cases hG : G with
  | none => rw [hG] at h; cases h
  | some q =>
    rw [hG] at h hM
    obtain ⟨ci, rs, vc, r1, r2, r3, r4⟩ := rc
    refine R_callV hO dc (hM _ rfl) hd lkv hp hst hs (view_at r1) r2 r3 r4 ⟨X, rfl, Nat.zero_le _, Nat.zero_le _⟩ (fun v h' hv => ?_)
    obtain ⟨hv1, hv2⟩ := hv
    rw [hv1, hv2]
    exact kk q.1 q.2 r h hz
theorem S_callVV {N : MD} {d2 idx : Nat} {a : Nat} {As rest : List Value} {G : Option (Mem)} {K : Mem → Option α} (hO : OKX X false d M) (dc : decode M.2.1 pc = .ok (.invokevirtual idx, 3)) (hM : CS d2 N (.ref a :: As) σ (G.map wV)) (hd : d2 < d) (lkv : LKV M.1.cls idx N) (hp : np N As.length) (rc : RC a N) (hst : st = As.reverse ++ .ref a :: rest) (hs : (rest.map fun v => v.category).sum ≤ 8) (kk : ∀ τ, SIM X M w Z (pc + 3) L rest τ (K τ)) : SIM X M w Z pc L st σ (bd G K) := by
  intro r h hz
  cases hG : G with
  | none => rw [hG] at h; cases h
  | some q =>
    rw [hG] at h hM
    obtain ⟨ci, rs, vc, r1, r2, r3, r4⟩ := rc
    refine R_callV hO dc (hM _ rfl) hd lkv hp hst hs (view_at r1) r2 r3 r4 ⟨X, rfl, Nat.zero_le _, Nat.zero_le _⟩ (fun v h' hv => ?_)
    obtain ⟨hv1, hv2⟩ := hv
    rw [hv1, hv2]
    exact kk q r h hz
theorem S_callVR {N : MD} {d2 idx : Nat} {a : Nat} {p : Nat} {As rest : List Value} {G : Option (Mem)} {K : Mem → Option α} (hO : OKX X false d M) (dc : decode M.2.1 pc = .ok (.invokevirtual idx, 3)) (hM : CS d2 N (.ref a :: As) σ (G.map (wR p))) (hd : d2 < d) (lkv : LKV M.1.cls idx N) (hp : np N As.length) (rc : RC a N) (hst : st = As.reverse ++ .ref a :: rest) (hs : (rest.map fun v => v.category).sum ≤ 8) (kk : ∀ τ, SIM X M w Z (pc + 3) L (.ref p :: rest) τ (K τ)) : SIM X M w Z pc L st σ (bd G K) := by
  intro r h hz
  cases hG : G with
  | none => rw [hG] at h; cases h
  | some q =>
    rw [hG] at h hM
    obtain ⟨ci, rs, vc, r1, r2, r3, r4⟩ := rc
    refine R_callV hO dc (hM _ rfl) hd lkv hp hst hs (view_at r1) r2 r3 r4 ⟨X, rfl, Nat.zero_le _, Nat.zero_le _⟩ (fun v h' hv => ?_)
    obtain ⟨hv1, hv2⟩ := hv
    rw [hv1, hv2]
    exact kk q r h hz
theorem S_callSI {N : MD} {d2 idx : Nat} {As rest : List Value} {G : Option (Int32 × Mem)} {K : Int32 → Mem → Option α} (hO : OKX X false d M) (dc : decode M.2.1 pc = .ok (.invokestatic idx, 3)) (hM : CS d2 N As σ (G.map wI)) (hd : d2 < d) (lkv : LKS M.1.cls idx N) (hp : np N As.length) (hst : st = As.reverse ++ rest) (hs : (rest.map fun v => v.category).sum ≤ 8) (kk : ∀ x τ, SIM X M w Z (pc + 3) L (.int x :: rest) τ (K x τ)) : SIM X M w Z pc L st σ (bd2 G K) := by
  intro r h hz
  cases hG : G with
  | none => rw [hG] at h; cases h
  | some q =>
    rw [hG] at h hM
    refine R_callS hO dc (hM _ rfl) hd lkv hp hst hs ⟨X, rfl, Nat.zero_le _, Nat.zero_le _⟩ (fun v h' hv => ?_)
    obtain ⟨hv1, hv2⟩ := hv
    rw [hv1, hv2]
    exact kk q.1 q.2 r h hz
theorem S_callSL {N : MD} {d2 idx : Nat} {As rest : List Value} {G : Option (Int64 × Mem)} {K : Int64 → Mem → Option α} (hO : OKX X false d M) (dc : decode M.2.1 pc = .ok (.invokestatic idx, 3)) (hM : CS d2 N As σ (G.map wL)) (hd : d2 < d) (lkv : LKS M.1.cls idx N) (hp : np N As.length) (hst : st = As.reverse ++ rest) (hs : (rest.map fun v => v.category).sum ≤ 8) (kk : ∀ x τ, SIM X M w Z (pc + 3) L (.long x :: rest) τ (K x τ)) : SIM X M w Z pc L st σ (bd2 G K) := by
  intro r h hz
  cases hG : G with
  | none => rw [hG] at h; cases h
  | some q =>
    rw [hG] at h hM
    refine R_callS hO dc (hM _ rfl) hd lkv hp hst hs ⟨X, rfl, Nat.zero_le _, Nat.zero_le _⟩ (fun v h' hv => ?_)
    obtain ⟨hv1, hv2⟩ := hv
    rw [hv1, hv2]
    exact kk q.1 q.2 r h hz
theorem S_callSA {N : MD} {d2 idx : Nat} {As rest : List Value} {G : Option (Nat × Mem)} {K : Nat → Mem → Option α} (hO : OKX X false d M) (dc : decode M.2.1 pc = .ok (.invokestatic idx, 3)) (hM : CS d2 N As σ (G.map wA)) (hd : d2 < d) (lkv : LKS M.1.cls idx N) (hp : np N As.length) (hst : st = As.reverse ++ rest) (hs : (rest.map fun v => v.category).sum ≤ 8) (kk : ∀ x τ, SIM X M w Z (pc + 3) L (.ref x :: rest) τ (K x τ)) : SIM X M w Z pc L st σ (bd2 G K) := by
  intro r h hz
  cases hG : G with
  | none => rw [hG] at h; cases h
  | some q =>
    rw [hG] at h hM
    refine R_callS hO dc (hM _ rfl) hd lkv hp hst hs ⟨X, rfl, Nat.zero_le _, Nat.zero_le _⟩ (fun v h' hv => ?_)
    obtain ⟨hv1, hv2⟩ := hv
    rw [hv1, hv2]
    exact kk q.1 q.2 r h hz
theorem S_callSV {N : MD} {d2 idx : Nat} {As rest : List Value} {G : Option (Mem)} {K : Mem → Option α} (hO : OKX X false d M) (dc : decode M.2.1 pc = .ok (.invokestatic idx, 3)) (hM : CS d2 N As σ (G.map wV)) (hd : d2 < d) (lkv : LKS M.1.cls idx N) (hp : np N As.length) (hst : st = As.reverse ++ rest) (hs : (rest.map fun v => v.category).sum ≤ 8) (kk : ∀ τ, SIM X M w Z (pc + 3) L rest τ (K τ)) : SIM X M w Z pc L st σ (bd G K) := by
  intro r h hz
  cases hG : G with
  | none => rw [hG] at h; cases h
  | some q =>
    rw [hG] at h hM
    refine R_callS hO dc (hM _ rfl) hd lkv hp hst hs ⟨X, rfl, Nat.zero_le _, Nat.zero_le _⟩ (fun v h' hv => ?_)
    obtain ⟨hv1, hv2⟩ := hv
    rw [hv1, hv2]
    exact kk q r h hz
theorem S_callSR {N : MD} {d2 idx : Nat} {p : Nat} {As rest : List Value} {G : Option (Mem)} {K : Mem → Option α} (hO : OKX X false d M) (dc : decode M.2.1 pc = .ok (.invokestatic idx, 3)) (hM : CS d2 N As σ (G.map (wR p))) (hd : d2 < d) (lkv : LKS M.1.cls idx N) (hp : np N As.length) (hst : st = As.reverse ++ rest) (hs : (rest.map fun v => v.category).sum ≤ 8) (kk : ∀ τ, SIM X M w Z (pc + 3) L (.ref p :: rest) τ (K τ)) : SIM X M w Z pc L st σ (bd G K) := by
  intro r h hz
  cases hG : G with
  | none => rw [hG] at h; cases h
  | some q =>
    rw [hG] at h hM
    refine R_callS hO dc (hM _ rfl) hd lkv hp hst hs ⟨X, rfl, Nat.zero_le _, Nat.zero_le _⟩ (fun v h' hv => ?_)
    obtain ⟨hv1, hv2⟩ := hv
    rw [hv1, hv2]
    exact kk q r h hz
theorem S_callNI {N : MD} {d2 idx : Nat} {As rest : List Value} {G : Option (Int32 × Mem)} {K : Int32 → Mem → Option α} (hO : OKX X false d M) (dc : decode M.2.1 pc = .ok (.invokestatic idx, 3)) (hM : CS d2 N As σ (G.map wI)) (hd : d2 < d) (lkv : LKN M.1.cls idx N) (hp : np N As.length) (hst : st = As.reverse ++ rest) (hs : (rest.map fun v => v.category).sum ≤ 8) (kk : ∀ x τ, SIM X M w Z (pc + 3) L (.int x :: rest) τ (K x τ)) : SIM X M w Z pc L st σ (bd2 G K) := by
  intro r h hz
  cases hG : G with
  | none => rw [hG] at h; cases h
  | some q =>
    rw [hG] at h hM
    refine R_callSN hO dc (hM _ rfl) hd lkv hp hst hs ⟨X, rfl, Nat.zero_le _, Nat.zero_le _⟩ (fun v h' hv => ?_)
    obtain ⟨hv1, hv2⟩ := hv
    rw [hv1, hv2]
    exact kk q.1 q.2 r h hz
theorem S_callNL {N : MD} {d2 idx : Nat} {As rest : List Value} {G : Option (Int64 × Mem)} {K : Int64 → Mem → Option α} (hO : OKX X false d M) (dc : decode M.2.1 pc = .ok (.invokestatic idx, 3)) (hM : CS d2 N As σ (G.map wL)) (hd : d2 < d) (lkv : LKN M.1.cls idx N) (hp : np N As.length) (hst : st = As.reverse ++ rest) (hs : (rest.map fun v => v.category).sum ≤ 8) (kk : ∀ x τ, SIM X M w Z (pc + 3) L (.long x :: rest) τ (K x τ)) : SIM X M w Z pc L st σ (bd2 G K) := by
  intro r h hz
  cases hG : G with
  | none => rw [hG] at h; cases h
  | some q =>
    rw [hG] at h hM
    refine R_callSN hO dc (hM _ rfl) hd lkv hp hst hs ⟨X, rfl, Nat.zero_le _, Nat.zero_le _⟩ (fun v h' hv => ?_)
    obtain ⟨hv1, hv2⟩ := hv
    rw [hv1, hv2]
    exact kk q.1 q.2 r h hz
theorem S_callNA {N : MD} {d2 idx : Nat} {As rest : List Value} {G : Option (Nat × Mem)} {K : Nat → Mem → Option α} (hO : OKX X false d M) (dc : decode M.2.1 pc = .ok (.invokestatic idx, 3)) (hM : CS d2 N As σ (G.map wA)) (hd : d2 < d) (lkv : LKN M.1.cls idx N) (hp : np N As.length) (hst : st = As.reverse ++ rest) (hs : (rest.map fun v => v.category).sum ≤ 8) (kk : ∀ x τ, SIM X M w Z (pc + 3) L (.ref x :: rest) τ (K x τ)) : SIM X M w Z pc L st σ (bd2 G K) := by
  intro r h hz
  cases hG : G with
  | none => rw [hG] at h; cases h
  | some q =>
    rw [hG] at h hM
    refine R_callSN hO dc (hM _ rfl) hd lkv hp hst hs ⟨X, rfl, Nat.zero_le _, Nat.zero_le _⟩ (fun v h' hv => ?_)
    obtain ⟨hv1, hv2⟩ := hv
    rw [hv1, hv2]
    exact kk q.1 q.2 r h hz
theorem S_callNV {N : MD} {d2 idx : Nat} {As rest : List Value} {G : Option (Mem)} {K : Mem → Option α} (hO : OKX X false d M) (dc : decode M.2.1 pc = .ok (.invokestatic idx, 3)) (hM : CS d2 N As σ (G.map wV)) (hd : d2 < d) (lkv : LKN M.1.cls idx N) (hp : np N As.length) (hst : st = As.reverse ++ rest) (hs : (rest.map fun v => v.category).sum ≤ 8) (kk : ∀ τ, SIM X M w Z (pc + 3) L rest τ (K τ)) : SIM X M w Z pc L st σ (bd G K) := by
  intro r h hz
  cases hG : G with
  | none => rw [hG] at h; cases h
  | some q =>
    rw [hG] at h hM
    refine R_callSN hO dc (hM _ rfl) hd lkv hp hst hs ⟨X, rfl, Nat.zero_le _, Nat.zero_le _⟩ (fun v h' hv => ?_)
    obtain ⟨hv1, hv2⟩ := hv
    rw [hv1, hv2]
    exact kk q r h hz
theorem S_callNR {N : MD} {d2 idx : Nat} {p : Nat} {As rest : List Value} {G : Option (Mem)} {K : Mem → Option α} (hO : OKX X false d M) (dc : decode M.2.1 pc = .ok (.invokestatic idx, 3)) (hM : CS d2 N As σ (G.map (wR p))) (hd : d2 < d) (lkv : LKN M.1.cls idx N) (hp : np N As.length) (hst : st = As.reverse ++ rest) (hs : (rest.map fun v => v.category).sum ≤ 8) (kk : ∀ τ, SIM X M w Z (pc + 3) L (.ref p :: rest) τ (K τ)) : SIM X M w Z pc L st σ (bd G K) := by
  intro r h hz
  cases hG : G with
  | none => rw [hG] at h; cases h
  | some q =>
    rw [hG] at h hM
    refine R_callSN hO dc (hM _ rfl) hd lkv hp hst hs ⟨X, rfl, Nat.zero_le _, Nat.zero_le _⟩ (fun v h' hv => ?_)
    obtain ⟨hv1, hv2⟩ := hv
    rw [hv1, hv2]
    exact kk q r h hz
end SIMR
end
