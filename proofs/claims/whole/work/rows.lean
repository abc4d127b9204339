section
-- ===== PART A: goes FIRST, ahead of the names: the tables' words, and 'selects' of the private methods out of them =====
/-- a private method of a class that the tables say can be made, by its rows of tables_1 -/
def lw_okq (q : MethodName × Nat) : Prop := (q.1.cls ≠ "java/lang/invoke/MethodHandle" ∧ q.1.cls ≠ "java/lang/invoke/VarHandle") ∧ Cond.instantiable q.1.cls q.2 ∈ tables_1 ∧ Cond.privateMethod q.1 ∈ tables_1 ∧ Cond.instanceMethod q.1 ∈ tables_1
theorem lw_p0 : lw_okq (⟨"TopStreet", "found", "(I)I"⟩, 10) := ⟨⟨by decide +kernel, by decide +kernel⟩, List.mem_of_getElem? (i := 19) (by decide +kernel), List.mem_of_getElem? (i := 272) (by decide +kernel), List.mem_of_getElem? (i := 273) (by decide +kernel)⟩
theorem lw_p1 : lw_okq (⟨"TopStreet", "fine", "(I)I"⟩, 10) := ⟨⟨by decide +kernel, by decide +kernel⟩, List.mem_of_getElem? (i := 19) (by decide +kernel), List.mem_of_getElem? (i := 281) (by decide +kernel), List.mem_of_getElem? (i := 282) (by decide +kernel)⟩
theorem lw_p2 : lw_okq (⟨"TopStreet$Tape", "readSign", "(I)V"⟩, 5) := ⟨⟨by decide +kernel, by decide +kernel⟩, List.mem_of_getElem? (i := 29) (by decide +kernel), List.mem_of_getElem? (i := 328) (by decide +kernel), List.mem_of_getElem? (i := 329) (by decide +kernel)⟩
theorem lw_p3 : lw_okq (⟨"TopStreet$Tape", "step", "(Z)V"⟩, 5) := ⟨⟨by decide +kernel, by decide +kernel⟩, List.mem_of_getElem? (i := 29) (by decide +kernel), List.mem_of_getElem? (i := 332) (by decide +kernel), List.mem_of_getElem? (i := 333) (by decide +kernel)⟩
theorem lw_p4 : lw_okq (⟨"TopStreet$Tape", "readNumber", "(II)I"⟩, 5) := ⟨⟨by decide +kernel, by decide +kernel⟩, List.mem_of_getElem? (i := 29) (by decide +kernel), List.mem_of_getElem? (i := 336) (by decide +kernel), List.mem_of_getElem? (i := 337) (by decide +kernel)⟩
theorem lw_p5 : lw_okq (⟨"TopStreet$Tape", "readHouse", "()V"⟩, 5) := ⟨⟨by decide +kernel, by decide +kernel⟩, List.mem_of_getElem? (i := 29) (by decide +kernel), List.mem_of_getElem? (i := 341) (by decide +kernel), List.mem_of_getElem? (i := 342) (by decide +kernel)⟩
theorem lw_p6 : lw_okq (⟨"TopStreet$Tape", "readSort", "()I"⟩, 5) := ⟨⟨by decide +kernel, by decide +kernel⟩, List.mem_of_getElem? (i := 29) (by decide +kernel), List.mem_of_getElem? (i := 345) (by decide +kernel), List.mem_of_getElem? (i := 346) (by decide +kernel)⟩
theorem lw_p7 : lw_okq (⟨"TopStreet", "noStreet", "()Z"⟩, 10) := ⟨⟨by decide +kernel, by decide +kernel⟩, List.mem_of_getElem? (i := 19) (by decide +kernel), List.mem_of_getElem? (i := 469) (by decide +kernel), List.mem_of_getElem? (i := 470) (by decide +kernel)⟩
theorem lw_p8 : lw_okq (⟨"TopStreet", "isHouse", "(I)Z"⟩, 10) := ⟨⟨by decide +kernel, by decide +kernel⟩, List.mem_of_getElem? (i := 19) (by decide +kernel), List.mem_of_getElem? (i := 503) (by decide +kernel), List.mem_of_getElem? (i := 504) (by decide +kernel)⟩
theorem lw_p9 : lw_okq (⟨"TopStreet$Round", "weigh", "(LTopStreet$Street;)V"⟩, 5) := ⟨⟨by decide +kernel, by decide +kernel⟩, List.mem_of_getElem? (i := 154) (by decide +kernel), List.mem_of_getElem? (i := 589) (by decide +kernel), List.mem_of_getElem? (i := 590) (by decide +kernel)⟩
theorem lw_p10 : lw_okq (⟨"TopStreet$Foretold", "standingAfter", "(I)I"⟩, 4) := ⟨⟨by decide +kernel, by decide +kernel⟩, List.mem_of_getElem? (i := 132) (by decide +kernel), List.mem_of_getElem? (i := 615) (by decide +kernel), List.mem_of_getElem? (i := 616) (by decide +kernel)⟩
theorem lw_p11 : lw_okq (⟨"TopStreet$Foretold", "evensLead", "(I)I"⟩, 4) := ⟨⟨by decide +kernel, by decide +kernel⟩, List.mem_of_getElem? (i := 132) (by decide +kernel), List.mem_of_getElem? (i := 636) (by decide +kernel), List.mem_of_getElem? (i := 637) (by decide +kernel)⟩
theorem lw_p12 : lw_okq (⟨"TopStreet$Street", "lacking", "(I)I"⟩, 8) := ⟨⟨by decide +kernel, by decide +kernel⟩, List.mem_of_getElem? (i := 35) (by decide +kernel), List.mem_of_getElem? (i := 652) (by decide +kernel), List.mem_of_getElem? (i := 653) (by decide +kernel)⟩
theorem lw_p13 : lw_okq (⟨"TopStreet$Foretold", "isHeard", "(I)Z"⟩, 4) := ⟨⟨by decide +kernel, by decide +kernel⟩, List.mem_of_getElem? (i := 132) (by decide +kernel), List.mem_of_getElem? (i := 669) (by decide +kernel), List.mem_of_getElem? (i := 670) (by decide +kernel)⟩
theorem lw_p14 : lw_okq (⟨"TopStreet$Foretold", "standsCracked", "(LTopStreet$Street;III)Z"⟩, 4) := ⟨⟨by decide +kernel, by decide +kernel⟩, List.mem_of_getElem? (i := 132) (by decide +kernel), List.mem_of_getElem? (i := 706) (by decide +kernel), List.mem_of_getElem? (i := 707) (by decide +kernel)⟩
theorem lw_p15 : lw_okq (⟨"TopStreet$Asks", "sizeInParish", "()I"⟩, 6) := ⟨⟨by decide +kernel, by decide +kernel⟩, List.mem_of_getElem? (i := 181) (by decide +kernel), List.mem_of_getElem? (i := 763) (by decide +kernel), List.mem_of_getElem? (i := 764) (by decide +kernel)⟩
def lw_privs_1 : List (MethodName × Nat) := [(⟨"TopStreet", "found", "(I)I"⟩, 10), (⟨"TopStreet", "fine", "(I)I"⟩, 10), (⟨"TopStreet$Tape", "readSign", "(I)V"⟩, 5), (⟨"TopStreet$Tape", "step", "(Z)V"⟩, 5), (⟨"TopStreet$Tape", "readNumber", "(II)I"⟩, 5), (⟨"TopStreet$Tape", "readHouse", "()V"⟩, 5), (⟨"TopStreet$Tape", "readSort", "()I"⟩, 5), (⟨"TopStreet", "noStreet", "()Z"⟩, 10), (⟨"TopStreet", "isHouse", "(I)Z"⟩, 10), (⟨"TopStreet$Round", "weigh", "(LTopStreet$Street;)V"⟩, 5), (⟨"TopStreet$Foretold", "standingAfter", "(I)I"⟩, 4), (⟨"TopStreet$Foretold", "evensLead", "(I)I"⟩, 4), (⟨"TopStreet$Street", "lacking", "(I)I"⟩, 8), (⟨"TopStreet$Foretold", "isHeard", "(I)Z"⟩, 4), (⟨"TopStreet$Foretold", "standsCracked", "(LTopStreet$Street;III)Z"⟩, 4), (⟨"TopStreet$Asks", "sizeInParish", "()I"⟩, 6)]
theorem lw_r1 : ∀ q ∈ lw_privs_1, lw_okq q := List.forall_mem_cons.mpr ⟨lw_p0, List.forall_mem_cons.mpr ⟨lw_p1, List.forall_mem_cons.mpr ⟨lw_p2, List.forall_mem_cons.mpr ⟨lw_p3, List.forall_mem_cons.mpr ⟨lw_p4, List.forall_mem_cons.mpr ⟨lw_p5, List.forall_mem_cons.mpr ⟨lw_p6, List.forall_mem_cons.mpr ⟨lw_p7, List.forall_mem_cons.mpr ⟨lw_p8, List.forall_mem_cons.mpr ⟨lw_p9, List.forall_mem_cons.mpr ⟨lw_p10, List.forall_mem_cons.mpr ⟨lw_p11, List.forall_mem_cons.mpr ⟨lw_p12, List.forall_mem_cons.mpr ⟨lw_p13, List.forall_mem_cons.mpr ⟨lw_p14, List.forall_mem_cons.mpr ⟨lw_p15, fun _ h => absurd h List.not_mem_nil⟩⟩⟩⟩⟩⟩⟩⟩⟩⟩⟩⟩⟩⟩⟩⟩
theorem lw_p16 : lw_okq (⟨"TopStreet$Asks", "leave", "(I)V"⟩, 6) := ⟨⟨by decide +kernel, by decide +kernel⟩, List.mem_of_getElem? (i := 181) (by decide +kernel), List.mem_of_getElem? (i := 767) (by decide +kernel), List.mem_of_getElem? (i := 768) (by decide +kernel)⟩
theorem lw_p17 : lw_okq (⟨"TopStreet$Asks", "parishSize", "()I"⟩, 6) := ⟨⟨by decide +kernel, by decide +kernel⟩, List.mem_of_getElem? (i := 181) (by decide +kernel), List.mem_of_getElem? (i := 771) (by decide +kernel), List.mem_of_getElem? (i := 772) (by decide +kernel)⟩
theorem lw_p18 : lw_okq (⟨"TopStreet$Asks", "lentSize", "()I"⟩, 6) := ⟨⟨by decide +kernel, by decide +kernel⟩, List.mem_of_getElem? (i := 181) (by decide +kernel), List.mem_of_getElem? (i := 775) (by decide +kernel), List.mem_of_getElem? (i := 776) (by decide +kernel)⟩
theorem lw_p19 : lw_okq (⟨"TopStreet$Asks", "woodSize", "()I"⟩, 6) := ⟨⟨by decide +kernel, by decide +kernel⟩, List.mem_of_getElem? (i := 181) (by decide +kernel), List.mem_of_getElem? (i := 779) (by decide +kernel), List.mem_of_getElem? (i := 780) (by decide +kernel)⟩
theorem lw_p20 : lw_okq (⟨"TopStreet$Asks", "markInWood", "()I"⟩, 6) := ⟨⟨by decide +kernel, by decide +kernel⟩, List.mem_of_getElem? (i := 181) (by decide +kernel), List.mem_of_getElem? (i := 783) (by decide +kernel), List.mem_of_getElem? (i := 784) (by decide +kernel)⟩
theorem lw_p21 : lw_okq (⟨"TopStreet$Asks", "woodMark", "()I"⟩, 6) := ⟨⟨by decide +kernel, by decide +kernel⟩, List.mem_of_getElem? (i := 181) (by decide +kernel), List.mem_of_getElem? (i := 787) (by decide +kernel), List.mem_of_getElem? (i := 788) (by decide +kernel)⟩
theorem lw_p22 : lw_okq (⟨"TopStreet$Asks", "lentMark", "()I"⟩, 6) := ⟨⟨by decide +kernel, by decide +kernel⟩, List.mem_of_getElem? (i := 181) (by decide +kernel), List.mem_of_getElem? (i := 791) (by decide +kernel), List.mem_of_getElem? (i := 792) (by decide +kernel)⟩
theorem lw_p23 : lw_okq (⟨"TopStreet$Asks", "parishMark", "()I"⟩, 6) := ⟨⟨by decide +kernel, by decide +kernel⟩, List.mem_of_getElem? (i := 181) (by decide +kernel), List.mem_of_getElem? (i := 799) (by decide +kernel), List.mem_of_getElem? (i := 800) (by decide +kernel)⟩
theorem lw_p24 : lw_okq (⟨"TopStreet", "rowsThere", "()I"⟩, 10) := ⟨⟨by decide +kernel, by decide +kernel⟩, List.mem_of_getElem? (i := 19) (by decide +kernel), List.mem_of_getElem? (i := 811) (by decide +kernel), List.mem_of_getElem? (i := 812) (by decide +kernel)⟩
theorem lw_p25 : lw_okq (⟨"TopStreetModel", "find", "(I)I"⟩, 24) := ⟨⟨by decide +kernel, by decide +kernel⟩, List.mem_of_getElem? (i := 820) (by decide +kernel), List.mem_of_getElem? (i := 913) (by decide +kernel), List.mem_of_getElem? (i := 914) (by decide +kernel)⟩
theorem lw_p26 : lw_okq (⟨"TopStreetModel", "well", "(I)I"⟩, 24) := ⟨⟨by decide +kernel, by decide +kernel⟩, List.mem_of_getElem? (i := 820) (by decide +kernel), List.mem_of_getElem? (i := 918) (by decide +kernel), List.mem_of_getElem? (i := 919) (by decide +kernel)⟩
theorem lw_p27 : lw_okq (⟨"TopStreetModel", "readStreet", "()Z"⟩, 24) := ⟨⟨by decide +kernel, by decide +kernel⟩, List.mem_of_getElem? (i := 820) (by decide +kernel), List.mem_of_getElem? (i := 947) (by decide +kernel), List.mem_of_getElem? (i := 948) (by decide +kernel)⟩
theorem lw_p28 : lw_okq (⟨"TopStreetModel", "nextToken", "()V"⟩, 24) := ⟨⟨by decide +kernel, by decide +kernel⟩, List.mem_of_getElem? (i := 820) (by decide +kernel), List.mem_of_getElem? (i := 951) (by decide +kernel), List.mem_of_getElem? (i := 952) (by decide +kernel)⟩
theorem lw_p29 : lw_okq (⟨"TopStreetModel", "takes", "(I)Z"⟩, 24) := ⟨⟨by decide +kernel, by decide +kernel⟩, List.mem_of_getElem? (i := 820) (by decide +kernel), List.mem_of_getElem? (i := 959) (by decide +kernel), List.mem_of_getElem? (i := 960) (by decide +kernel)⟩
theorem lw_p30 : lw_okq (⟨"TopStreetModel", "faults", "(I)Z"⟩, 24) := ⟨⟨by decide +kernel, by decide +kernel⟩, List.mem_of_getElem? (i := 820) (by decide +kernel), List.mem_of_getElem? (i := 963) (by decide +kernel), List.mem_of_getElem? (i := 964) (by decide +kernel)⟩
theorem lw_p31 : lw_okq (⟨"TopStreetModel", "takesNumber", "(IIII)Z"⟩, 24) := ⟨⟨by decide +kernel, by decide +kernel⟩, List.mem_of_getElem? (i := 820) (by decide +kernel), List.mem_of_getElem? (i := 967) (by decide +kernel), List.mem_of_getElem? (i := 968) (by decide +kernel)⟩
def lw_privs_2 : List (MethodName × Nat) := [(⟨"TopStreet$Asks", "leave", "(I)V"⟩, 6), (⟨"TopStreet$Asks", "parishSize", "()I"⟩, 6), (⟨"TopStreet$Asks", "lentSize", "()I"⟩, 6), (⟨"TopStreet$Asks", "woodSize", "()I"⟩, 6), (⟨"TopStreet$Asks", "markInWood", "()I"⟩, 6), (⟨"TopStreet$Asks", "woodMark", "()I"⟩, 6), (⟨"TopStreet$Asks", "lentMark", "()I"⟩, 6), (⟨"TopStreet$Asks", "parishMark", "()I"⟩, 6), (⟨"TopStreet", "rowsThere", "()I"⟩, 10), (⟨"TopStreetModel", "find", "(I)I"⟩, 24), (⟨"TopStreetModel", "well", "(I)I"⟩, 24), (⟨"TopStreetModel", "readStreet", "()Z"⟩, 24), (⟨"TopStreetModel", "nextToken", "()V"⟩, 24), (⟨"TopStreetModel", "takes", "(I)Z"⟩, 24), (⟨"TopStreetModel", "faults", "(I)Z"⟩, 24), (⟨"TopStreetModel", "takesNumber", "(IIII)Z"⟩, 24)]
theorem lw_r2 : ∀ q ∈ lw_privs_2, lw_okq q := List.forall_mem_cons.mpr ⟨lw_p16, List.forall_mem_cons.mpr ⟨lw_p17, List.forall_mem_cons.mpr ⟨lw_p18, List.forall_mem_cons.mpr ⟨lw_p19, List.forall_mem_cons.mpr ⟨lw_p20, List.forall_mem_cons.mpr ⟨lw_p21, List.forall_mem_cons.mpr ⟨lw_p22, List.forall_mem_cons.mpr ⟨lw_p23, List.forall_mem_cons.mpr ⟨lw_p24, List.forall_mem_cons.mpr ⟨lw_p25, List.forall_mem_cons.mpr ⟨lw_p26, List.forall_mem_cons.mpr ⟨lw_p27, List.forall_mem_cons.mpr ⟨lw_p28, List.forall_mem_cons.mpr ⟨lw_p29, List.forall_mem_cons.mpr ⟨lw_p30, List.forall_mem_cons.mpr ⟨lw_p31, fun _ h => absurd h List.not_mem_nil⟩⟩⟩⟩⟩⟩⟩⟩⟩⟩⟩⟩⟩⟩⟩⟩
theorem lw_p32 : lw_okq (⟨"TopStreetModel", "readHouse", "()Z"⟩, 24) := ⟨⟨by decide +kernel, by decide +kernel⟩, List.mem_of_getElem? (i := 820) (by decide +kernel), List.mem_of_getElem? (i := 971) (by decide +kernel), List.mem_of_getElem? (i := 972) (by decide +kernel)⟩
theorem lw_p33 : lw_okq (⟨"TopStreetModel", "note", "()V"⟩, 24) := ⟨⟨by decide +kernel, by decide +kernel⟩, List.mem_of_getElem? (i := 820) (by decide +kernel), List.mem_of_getElem? (i := 993) (by decide +kernel), List.mem_of_getElem? (i := 994) (by decide +kernel)⟩
theorem lw_p34 : lw_okq (⟨"TopStreetModel", "oneHour", "()V"⟩, 24) := ⟨⟨by decide +kernel, by decide +kernel⟩, List.mem_of_getElem? (i := 820) (by decide +kernel), List.mem_of_getElem? (i := 997) (by decide +kernel), List.mem_of_getElem? (i := 998) (by decide +kernel)⟩
theorem lw_p35 : lw_okq (⟨"TopStreetModel", "standing", "()I"⟩, 24) := ⟨⟨by decide +kernel, by decide +kernel⟩, List.mem_of_getElem? (i := 820) (by decide +kernel), List.mem_of_getElem? (i := 1001) (by decide +kernel), List.mem_of_getElem? (i := 1002) (by decide +kernel)⟩
theorem lw_p36 : lw_okq (⟨"TopStreetModel", "stands", "(I)Z"⟩, 24) := ⟨⟨by decide +kernel, by decide +kernel⟩, List.mem_of_getElem? (i := 820) (by decide +kernel), List.mem_of_getElem? (i := 1005) (by decide +kernel), List.mem_of_getElem? (i := 1006) (by decide +kernel)⟩
theorem lw_p37 : lw_okq (⟨"TopStreetModel", "lossOf", "(I)I"⟩, 24) := ⟨⟨by decide +kernel, by decide +kernel⟩, List.mem_of_getElem? (i := 820) (by decide +kernel), List.mem_of_getElem? (i := 1009) (by decide +kernel), List.mem_of_getElem? (i := 1010) (by decide +kernel)⟩
theorem lw_p38 : lw_okq (⟨"TopStreetModel", "leans", "(I)Z"⟩, 24) := ⟨⟨by decide +kernel, by decide +kernel⟩, List.mem_of_getElem? (i := 820) (by decide +kernel), List.mem_of_getElem? (i := 1013) (by decide +kernel), List.mem_of_getElem? (i := 1014) (by decide +kernel)⟩
theorem lw_p39 : lw_okq (⟨"TopStreetModel", "touches", "(I)I"⟩, 24) := ⟨⟨by decide +kernel, by decide +kernel⟩, List.mem_of_getElem? (i := 820) (by decide +kernel), List.mem_of_getElem? (i := 1017) (by decide +kernel), List.mem_of_getElem? (i := 1018) (by decide +kernel)⟩
theorem lw_p40 : lw_okq (⟨"TopStreetModel", "loses", "(II)V"⟩, 24) := ⟨⟨by decide +kernel, by decide +kernel⟩, List.mem_of_getElem? (i := 820) (by decide +kernel), List.mem_of_getElem? (i := 1024) (by decide +kernel), List.mem_of_getElem? (i := 1025) (by decide +kernel)⟩
theorem lw_p41 : lw_okq (⟨"TopStreetModel", "isHouse", "(I)Z"⟩, 24) := ⟨⟨by decide +kernel, by decide +kernel⟩, List.mem_of_getElem? (i := 820) (by decide +kernel), List.mem_of_getElem? (i := 1032) (by decide +kernel), List.mem_of_getElem? (i := 1033) (by decide +kernel)⟩
theorem lw_p42 : lw_okq (⟨"TopStreetModel", "lashBy", "(II)V"⟩, 24) := ⟨⟨by decide +kernel, by decide +kernel⟩, List.mem_of_getElem? (i := 820) (by decide +kernel), List.mem_of_getElem? (i := 1036) (by decide +kernel), List.mem_of_getElem? (i := 1037) (by decide +kernel)⟩
theorem lw_p43 : lw_okq (⟨"TopStreetModel", "leaning", "()I"⟩, 24) := ⟨⟨by decide +kernel, by decide +kernel⟩, List.mem_of_getElem? (i := 820) (by decide +kernel), List.mem_of_getElem? (i := 1056) (by decide +kernel), List.mem_of_getElem? (i := 1057) (by decide +kernel)⟩
theorem lw_p44 : lw_okq (⟨"TopStreetModel", "spinOf", "(II)I"⟩, 24) := ⟨⟨by decide +kernel, by decide +kernel⟩, List.mem_of_getElem? (i := 820) (by decide +kernel), List.mem_of_getElem? (i := 1060) (by decide +kernel), List.mem_of_getElem? (i := 1061) (by decide +kernel)⟩
theorem lw_p45 : lw_okq (⟨"TopStreetModel", "putAside", "()V"⟩, 24) := ⟨⟨by decide +kernel, by decide +kernel⟩, List.mem_of_getElem? (i := 820) (by decide +kernel), List.mem_of_getElem? (i := 1069) (by decide +kernel), List.mem_of_getElem? (i := 1070) (by decide +kernel)⟩
theorem lw_p46 : lw_okq (⟨"TopStreetModel", "goOn", "(I)V"⟩, 24) := ⟨⟨by decide +kernel, by decide +kernel⟩, List.mem_of_getElem? (i := 820) (by decide +kernel), List.mem_of_getElem? (i := 1073) (by decide +kernel), List.mem_of_getElem? (i := 1074) (by decide +kernel)⟩
theorem lw_p47 : lw_okq (⟨"TopStreetModel", "takeBack", "()V"⟩, 24) := ⟨⟨by decide +kernel, by decide +kernel⟩, List.mem_of_getElem? (i := 820) (by decide +kernel), List.mem_of_getElem? (i := 1077) (by decide +kernel), List.mem_of_getElem? (i := 1078) (by decide +kernel)⟩
def lw_privs_3 : List (MethodName × Nat) := [(⟨"TopStreetModel", "readHouse", "()Z"⟩, 24), (⟨"TopStreetModel", "note", "()V"⟩, 24), (⟨"TopStreetModel", "oneHour", "()V"⟩, 24), (⟨"TopStreetModel", "standing", "()I"⟩, 24), (⟨"TopStreetModel", "stands", "(I)Z"⟩, 24), (⟨"TopStreetModel", "lossOf", "(I)I"⟩, 24), (⟨"TopStreetModel", "leans", "(I)Z"⟩, 24), (⟨"TopStreetModel", "touches", "(I)I"⟩, 24), (⟨"TopStreetModel", "loses", "(II)V"⟩, 24), (⟨"TopStreetModel", "isHouse", "(I)Z"⟩, 24), (⟨"TopStreetModel", "lashBy", "(II)V"⟩, 24), (⟨"TopStreetModel", "leaning", "()I"⟩, 24), (⟨"TopStreetModel", "spinOf", "(II)I"⟩, 24), (⟨"TopStreetModel", "putAside", "()V"⟩, 24), (⟨"TopStreetModel", "goOn", "(I)V"⟩, 24), (⟨"TopStreetModel", "takeBack", "()V"⟩, 24)]
theorem lw_r3 : ∀ q ∈ lw_privs_3, lw_okq q := List.forall_mem_cons.mpr ⟨lw_p32, List.forall_mem_cons.mpr ⟨lw_p33, List.forall_mem_cons.mpr ⟨lw_p34, List.forall_mem_cons.mpr ⟨lw_p35, List.forall_mem_cons.mpr ⟨lw_p36, List.forall_mem_cons.mpr ⟨lw_p37, List.forall_mem_cons.mpr ⟨lw_p38, List.forall_mem_cons.mpr ⟨lw_p39, List.forall_mem_cons.mpr ⟨lw_p40, List.forall_mem_cons.mpr ⟨lw_p41, List.forall_mem_cons.mpr ⟨lw_p42, List.forall_mem_cons.mpr ⟨lw_p43, List.forall_mem_cons.mpr ⟨lw_p44, List.forall_mem_cons.mpr ⟨lw_p45, List.forall_mem_cons.mpr ⟨lw_p46, List.forall_mem_cons.mpr ⟨lw_p47, fun _ h => absurd h List.not_mem_nil⟩⟩⟩⟩⟩⟩⟩⟩⟩⟩⟩⟩⟩⟩⟩⟩
theorem lw_p48 : lw_okq (⟨"TopStreetModel", "isHow", "(II)Z"⟩, 24) := ⟨⟨by decide +kernel, by decide +kernel⟩, List.mem_of_getElem? (i := 820) (by decide +kernel), List.mem_of_getElem? (i := 1085) (by decide +kernel), List.mem_of_getElem? (i := 1086) (by decide +kernel)⟩
theorem lw_p49 : lw_okq (⟨"TopStreetModel", "leftBehind", "(I)I"⟩, 24) := ⟨⟨by decide +kernel, by decide +kernel⟩, List.mem_of_getElem? (i := 820) (by decide +kernel), List.mem_of_getElem? (i := 1104) (by decide +kernel), List.mem_of_getElem? (i := 1105) (by decide +kernel)⟩
theorem lw_p50 : lw_okq (⟨"TopStreetModel", "goesRound", "(IIII)Z"⟩, 24) := ⟨⟨by decide +kernel, by decide +kernel⟩, List.mem_of_getElem? (i := 820) (by decide +kernel), List.mem_of_getElem? (i := 1112) (by decide +kernel), List.mem_of_getElem? (i := 1113) (by decide +kernel)⟩
theorem lw_p51 : lw_okq (⟨"TopStreetModel", "leastSpin", "()I"⟩, 24) := ⟨⟨by decide +kernel, by decide +kernel⟩, List.mem_of_getElem? (i := 820) (by decide +kernel), List.mem_of_getElem? (i := 1119) (by decide +kernel), List.mem_of_getElem? (i := 1120) (by decide +kernel)⟩
theorem lw_p52 : lw_okq (⟨"TopStreetModel", "lashTurns", "(II)V"⟩, 24) := ⟨⟨by decide +kernel, by decide +kernel⟩, List.mem_of_getElem? (i := 820) (by decide +kernel), List.mem_of_getElem? (i := 1137) (by decide +kernel), List.mem_of_getElem? (i := 1138) (by decide +kernel)⟩
theorem lw_p53 : lw_okq (⟨"TopStreetModel", "lackOf", "(I)I"⟩, 24) := ⟨⟨by decide +kernel, by decide +kernel⟩, List.mem_of_getElem? (i := 820) (by decide +kernel), List.mem_of_getElem? (i := 1146) (by decide +kernel), List.mem_of_getElem? (i := 1147) (by decide +kernel)⟩
theorem lw_p54 : lw_okq (⟨"TopStreetModel", "lacks", "(III)I"⟩, 24) := ⟨⟨by decide +kernel, by decide +kernel⟩, List.mem_of_getElem? (i := 820) (by decide +kernel), List.mem_of_getElem? (i := 1155) (by decide +kernel), List.mem_of_getElem? (i := 1156) (by decide +kernel)⟩
theorem lw_p55 : lw_okq (⟨"TopStreetModel", "spinsBy", "(IIII)I"⟩, 24) := ⟨⟨by decide +kernel, by decide +kernel⟩, List.mem_of_getElem? (i := 820) (by decide +kernel), List.mem_of_getElem? (i := 1159) (by decide +kernel), List.mem_of_getElem? (i := 1160) (by decide +kernel)⟩
theorem lw_p56 : lw_okq (⟨"TopStreetModel", "isSo", "(III)Z"⟩, 24) := ⟨⟨by decide +kernel, by decide +kernel⟩, List.mem_of_getElem? (i := 820) (by decide +kernel), List.mem_of_getElem? (i := 1163) (by decide +kernel), List.mem_of_getElem? (i := 1164) (by decide +kernel)⟩
theorem lw_p57 : lw_okq (⟨"TopStreetModel", "sizeOf", "(I)I"⟩, 24) := ⟨⟨by decide +kernel, by decide +kernel⟩, List.mem_of_getElem? (i := 820) (by decide +kernel), List.mem_of_getElem? (i := 1213) (by decide +kernel), List.mem_of_getElem? (i := 1214) (by decide +kernel)⟩
theorem lw_p58 : lw_okq (⟨"TopStreetModel", "begin", "(I)V"⟩, 24) := ⟨⟨by decide +kernel, by decide +kernel⟩, List.mem_of_getElem? (i := 820) (by decide +kernel), List.mem_of_getElem? (i := 1217) (by decide +kernel), List.mem_of_getElem? (i := 1218) (by decide +kernel)⟩
theorem lw_p59 : lw_okq (⟨"TopStreetModel", "woodSize", "(I)I"⟩, 24) := ⟨⟨by decide +kernel, by decide +kernel⟩, List.mem_of_getElem? (i := 820) (by decide +kernel), List.mem_of_getElem? (i := 1221) (by decide +kernel), List.mem_of_getElem? (i := 1222) (by decide +kernel)⟩
theorem lw_p60 : lw_okq (⟨"TopStreetModel", "lent", "(II)I"⟩, 24) := ⟨⟨by decide +kernel, by decide +kernel⟩, List.mem_of_getElem? (i := 820) (by decide +kernel), List.mem_of_getElem? (i := 1225) (by decide +kernel), List.mem_of_getElem? (i := 1226) (by decide +kernel)⟩
theorem lw_p61 : lw_okq (⟨"TopStreetModel", "markOf", "(I)I"⟩, 24) := ⟨⟨by decide +kernel, by decide +kernel⟩, List.mem_of_getElem? (i := 820) (by decide +kernel), List.mem_of_getElem? (i := 1229) (by decide +kernel), List.mem_of_getElem? (i := 1230) (by decide +kernel)⟩
theorem lw_p62 : lw_okq (⟨"TopStreetModel", "woodMark", "(I)I"⟩, 24) := ⟨⟨by decide +kernel, by decide +kernel⟩, List.mem_of_getElem? (i := 820) (by decide +kernel), List.mem_of_getElem? (i := 1233) (by decide +kernel), List.mem_of_getElem? (i := 1234) (by decide +kernel)⟩
theorem lw_p63 : lw_okq (⟨"TopStreetModel", "sizeOfParish", "(I)I"⟩, 24) := ⟨⟨by decide +kernel, by decide +kernel⟩, List.mem_of_getElem? (i := 820) (by decide +kernel), List.mem_of_getElem? (i := 1237) (by decide +kernel), List.mem_of_getElem? (i := 1238) (by decide +kernel)⟩
def lw_privs_4 : List (MethodName × Nat) := [(⟨"TopStreetModel", "isHow", "(II)Z"⟩, 24), (⟨"TopStreetModel", "leftBehind", "(I)I"⟩, 24), (⟨"TopStreetModel", "goesRound", "(IIII)Z"⟩, 24), (⟨"TopStreetModel", "leastSpin", "()I"⟩, 24), (⟨"TopStreetModel", "lashTurns", "(II)V"⟩, 24), (⟨"TopStreetModel", "lackOf", "(I)I"⟩, 24), (⟨"TopStreetModel", "lacks", "(III)I"⟩, 24), (⟨"TopStreetModel", "spinsBy", "(IIII)I"⟩, 24), (⟨"TopStreetModel", "isSo", "(III)Z"⟩, 24), (⟨"TopStreetModel", "sizeOf", "(I)I"⟩, 24), (⟨"TopStreetModel", "begin", "(I)V"⟩, 24), (⟨"TopStreetModel", "woodSize", "(I)I"⟩, 24), (⟨"TopStreetModel", "lent", "(II)I"⟩, 24), (⟨"TopStreetModel", "markOf", "(I)I"⟩, 24), (⟨"TopStreetModel", "woodMark", "(I)I"⟩, 24), (⟨"TopStreetModel", "sizeOfParish", "(I)I"⟩, 24)]
theorem lw_r4 : ∀ q ∈ lw_privs_4, lw_okq q := List.forall_mem_cons.mpr ⟨lw_p48, List.forall_mem_cons.mpr ⟨lw_p49, List.forall_mem_cons.mpr ⟨lw_p50, List.forall_mem_cons.mpr ⟨lw_p51, List.forall_mem_cons.mpr ⟨lw_p52, List.forall_mem_cons.mpr ⟨lw_p53, List.forall_mem_cons.mpr ⟨lw_p54, List.forall_mem_cons.mpr ⟨lw_p55, List.forall_mem_cons.mpr ⟨lw_p56, List.forall_mem_cons.mpr ⟨lw_p57, List.forall_mem_cons.mpr ⟨lw_p58, List.forall_mem_cons.mpr ⟨lw_p59, List.forall_mem_cons.mpr ⟨lw_p60, List.forall_mem_cons.mpr ⟨lw_p61, List.forall_mem_cons.mpr ⟨lw_p62, List.forall_mem_cons.mpr ⟨lw_p63, fun _ h => absurd h List.not_mem_nil⟩⟩⟩⟩⟩⟩⟩⟩⟩⟩⟩⟩⟩⟩⟩⟩
theorem lw_p64 : lw_okq (⟨"TopStreetModel", "parishSize", "(I)I"⟩, 24) := ⟨⟨by decide +kernel, by decide +kernel⟩, List.mem_of_getElem? (i := 820) (by decide +kernel), List.mem_of_getElem? (i := 1241) (by decide +kernel), List.mem_of_getElem? (i := 1242) (by decide +kernel)⟩
def lw_privs_5 : List (MethodName × Nat) := [(⟨"TopStreetModel", "parishSize", "(I)I"⟩, 24)]
theorem lw_r5 : ∀ q ∈ lw_privs_5, lw_okq q := List.forall_mem_cons.mpr ⟨lw_p64, fun _ h => absurd h List.not_mem_nil⟩
def lw_privs : List (MethodName × Nat) := lw_privs_1 ++ (lw_privs_2 ++ (lw_privs_3 ++ (lw_privs_4 ++ (lw_privs_5))))
def lw_tbl : List Cond := k2_sels lw_privs ++ tables_1
theorem lw_privs_ok : ∀ q ∈ lw_privs, lw_okq q := by
  show ∀ q ∈ lw_privs_1 ++ (lw_privs_2 ++ (lw_privs_3 ++ (lw_privs_4 ++ (lw_privs_5)))), lw_okq q
  exact List.forall_mem_append.mpr ⟨lw_r1, List.forall_mem_append.mpr ⟨lw_r2, List.forall_mem_append.mpr ⟨lw_r3, List.forall_mem_append.mpr ⟨lw_r4, lw_r5⟩⟩⟩⟩
def RX0 : String := "TopStreet$Acts"
def TX0 : u_T := fun k => match k with
  | 0 => ("TopStreet$Acts", "before", "[LTopStreet$Street;", true)
  | 1 => ("TopStreet$Acts", "oldest", "I", false)
  | _ => ("TopStreet$Acts", "count", "I", false)
def tyX0 : Nat → FieldType := fun k => match k with
  | 0 => .array (.object "TopStreet$Street")
  | 1 => .int
  | _ => .int
abbrev wsX00 : List Cond := u_ws RX0 TX0 3
theorem nmX0 : ∀ a, a < 3 → ∀ b, b < 3 → a ≠ b → (TX0 a).2.1 ≠ (TX0 b).2.1 := by decide +kernel
theorem tyX0_ok : ∀ k, k < 3 → parseFieldDescriptor (TX0 k).2.2.1 = some (tyX0 k) := by decide +kernel
abbrev cX0_init : ByteArray := prog_2_method_1_code
def yX0_init : MethodName := ⟨RX0, "<init>", "()V"⟩
abbrev cX0_forget : ByteArray := prog_2_method_2_code
def yX0_forget : MethodName := ⟨RX0, "forget", "()V"⟩
abbrev cX0_keep : ByteArray := prog_2_method_3_code
def yX0_keep : MethodName := ⟨RX0, "keep", "(LTopStreet$Street;)V"⟩
abbrev cX0_takeBack : ByteArray := prog_2_method_4_code
def yX0_takeBack : MethodName := ⟨RX0, "takeBack", "(LTopStreet$Street;)V"⟩
def RX1 : String := "TopStreet$Asks"
def TX1 : u_T := fun k => match k with
  | 0 => ("TopStreet$Asks", "bodies", "[I", true)
  | 1 => ("TopStreet$Asks", "traced", "I", false)
  | 2 => ("TopStreet$Asks", "number", "I", false)
  | 3 => ("TopStreet$Asks", "kind", "I", false)
  | 4 => ("TopStreet$Asks", "rub", "I", false)
  | _ => ("TopStreet$Asks", "spin", "I", false)
def tyX1 : Nat → FieldType := fun k => match k with
  | 0 => .array .int
  | 1 => .int
  | 2 => .int
  | 3 => .int
  | 4 => .int
  | _ => .int
abbrev wsX10 : List Cond := u_ws RX1 TX1 6
theorem nmX1 : ∀ a, a < 6 → ∀ b, b < 6 → a ≠ b → (TX1 a).2.1 ≠ (TX1 b).2.1 := by decide +kernel
theorem tyX1_ok : ∀ k, k < 6 → parseFieldDescriptor (TX1 k).2.2.1 = some (tyX1 k) := by decide +kernel
abbrev cX1_init : ByteArray := prog_3_method_1_code
def yX1_init : MethodName := ⟨RX1, "<init>", "()V"⟩
abbrev cX1_turnTo : ByteArray := prog_3_method_2_code
def yX1_turnTo : MethodName := ⟨RX1, "turnTo", "(LTopStreet$Street;I)V"⟩
abbrev cX1_leave : ByteArray := prog_3_method_3_code
def yX1_leave : MethodName := ⟨RX1, "leave", "(I)V"⟩
abbrev cX1_size : ByteArray := prog_3_method_4_code
def yX1_size : MethodName := ⟨RX1, "size", "()I"⟩
abbrev cX1_mark : ByteArray := prog_3_method_5_code
def yX1_mark : MethodName := ⟨RX1, "mark", "()I"⟩
abbrev cX1_sizeInParish : ByteArray := prog_3_method_6_code
def yX1_sizeInParish : MethodName := ⟨RX1, "sizeInParish", "()I"⟩
abbrev cX1_markInWood : ByteArray := prog_3_method_7_code
def yX1_markInWood : MethodName := ⟨RX1, "markInWood", "()I"⟩
abbrev cX1_lentSize : ByteArray := prog_3_method_8_code
def yX1_lentSize : MethodName := ⟨RX1, "lentSize", "()I"⟩
abbrev cX1_woodSize : ByteArray := prog_3_method_9_code
def yX1_woodSize : MethodName := ⟨RX1, "woodSize", "()I"⟩
abbrev cX1_parishSize : ByteArray := prog_3_method_10_code
def yX1_parishSize : MethodName := ⟨RX1, "parishSize", "()I"⟩
abbrev cX1_lentMark : ByteArray := prog_3_method_11_code
def yX1_lentMark : MethodName := ⟨RX1, "lentMark", "()I"⟩
abbrev cX1_woodMark : ByteArray := prog_3_method_12_code
def yX1_woodMark : MethodName := ⟨RX1, "woodMark", "()I"⟩
abbrev cX1_parishMark : ByteArray := prog_3_method_13_code
def yX1_parishMark : MethodName := ⟨RX1, "parishMark", "()I"⟩
def RX2 : String := "TopStreet$Foretold"
def TX2 : u_T := fun k => match k with
  | 0 => ("TopStreet$Foretold", "then", "LTopStreet$Street;", true)
  | 1 => ("TopStreet$Foretold", "played", "LTopStreet$Street;", true)
  | 2 => ("TopStreet$Foretold", "hum", "[I", true)
  | _ => ("TopStreet$Foretold", "humHours", "I", false)
def tyX2 : Nat → FieldType := fun k => match k with
  | 0 => .object "TopStreet$Street"
  | 1 => .object "TopStreet$Street"
  | 2 => .array .int
  | _ => .int
abbrev wsX20 : List Cond := u_ws RX2 TX2 4
theorem nmX2 : ∀ a, a < 4 → ∀ b, b < 4 → a ≠ b → (TX2 a).2.1 ≠ (TX2 b).2.1 := by decide +kernel
theorem tyX2_ok : ∀ k, k < 4 → parseFieldDescriptor (TX2 k).2.2.1 = some (tyX2 k) := by decide +kernel
abbrev cX2_init : ByteArray := prog_4_method_1_code
def yX2_init : MethodName := ⟨RX2, "<init>", "()V"⟩
abbrev cX2_after : ByteArray := prog_4_method_2_code
def yX2_after : MethodName := ⟨RX2, "after", "(LTopStreet$Street;I)LTopStreet$Street;"⟩
abbrev cX2_hoursUntil : ByteArray := prog_4_method_3_code
def yX2_hoursUntil : MethodName := ⟨RX2, "hoursUntil", "(LTopStreet$Street;II)I"⟩
abbrev cX2_firstToFall : ByteArray := prog_4_method_4_code
def yX2_firstToFall : MethodName := ⟨RX2, "firstToFall", "(LTopStreet$Street;I)I"⟩
abbrev cX2_standingAfter : ByteArray := prog_4_method_5_code
def yX2_standingAfter : MethodName := ⟨RX2, "standingAfter", "(I)I"⟩
abbrev cX2_bestWalls : ByteArray := prog_4_method_6_code
def yX2_bestWalls : MethodName := ⟨RX2, "bestWalls", "(LTopStreet$Street;II)I"⟩
abbrev cX2_bestSteadied : ByteArray := prog_4_method_7_code
def yX2_bestSteadied : MethodName := ⟨RX2, "bestSteadied", "(LTopStreet$Street;II)I"⟩
abbrev cX2_play : ByteArray := prog_4_method_8_code
def yX2_play : MethodName := ⟨RX2, "play", "(LTopStreet$Foretold;III)I"⟩
abbrev cX2_evensLead : ByteArray := prog_4_method_9_code
def yX2_evensLead : MethodName := ⟨RX2, "evensLead", "(I)I"⟩
abbrev cX2_listen : ByteArray := prog_4_method_10_code
def yX2_listen : MethodName := ⟨RX2, "listen", "([III)V"⟩
abbrev cX2_isHeard : ByteArray := prog_4_method_11_code
def yX2_isHeard : MethodName := ⟨RX2, "isHeard", "(I)Z"⟩
abbrev cX2_kindsHeard : ByteArray := prog_4_method_12_code
def yX2_kindsHeard : MethodName := ⟨RX2, "kindsHeard", "(LTopStreet$Street;I)I"⟩
abbrev cX2_rubsHeard : ByteArray := prog_4_method_13_code
def yX2_rubsHeard : MethodName := ⟨RX2, "rubsHeard", "(LTopStreet$Street;I)I"⟩
abbrev cX2_spinsHeard : ByteArray := prog_4_method_14_code
def yX2_spinsHeard : MethodName := ⟨RX2, "spinsHeard", "(LTopStreet$Street;II)I"⟩
abbrev cX2_fingersHeard : ByteArray := prog_4_method_15_code
def yX2_fingersHeard : MethodName := ⟨RX2, "fingersHeard", "(LTopStreet$Street;I)I"⟩
abbrev cX2_lashesHeard : ByteArray := prog_4_method_16_code
def yX2_lashesHeard : MethodName := ⟨RX2, "lashesHeard", "(LTopStreet$Street;II)I"⟩
abbrev cX2_chance : ByteArray := prog_4_method_17_code
def yX2_chance : MethodName := ⟨RX2, "chance", "(LTopStreet$Street;IIII)J"⟩
abbrev cX2_standsCracked : ByteArray := prog_4_method_18_code
def yX2_standsCracked : MethodName := ⟨RX2, "standsCracked", "(LTopStreet$Street;III)Z"⟩
abbrev cX2_power : ByteArray := prog_4_method_19_code
def yX2_power : MethodName := ⟨RX2, "power", "(II)J"⟩
abbrev cX2_commonDivisor : ByteArray := prog_4_method_20_code
def yX2_commonDivisor : MethodName := ⟨RX2, "commonDivisor", "(JJ)J"⟩
abbrev cX2_decades : ByteArray := prog_4_method_21_code
def yX2_decades : MethodName := ⟨RX2, "decades", "(LTopStreet$Street;II)LTopStreet$Street;"⟩
def RX3 : String := "TopStreet$Round"
def TX3 : u_T := fun k => match k with
  | 0 => ("TopStreet$Round", "behind", "[LTopStreet$Street;", true)
  | 1 => ("TopStreet$Round", "moves", "[I", true)
  | 2 => ("TopStreet$Round", "bestMoves", "[I", true)
  | 3 => ("TopStreet$Round", "bestStanding", "I", false)
  | _ => ("TopStreet$Round", "bestLeast", "I", false)
def tyX3 : Nat → FieldType := fun k => match k with
  | 0 => .array (.object "TopStreet$Street")
  | 1 => .array .int
  | 2 => .array .int
  | 3 => .int
  | _ => .int
abbrev wsX30 : List Cond := u_ws RX3 TX3 5
theorem nmX3 : ∀ a, a < 5 → ∀ b, b < 5 → a ≠ b → (TX3 a).2.1 ≠ (TX3 b).2.1 := by decide +kernel
theorem tyX3_ok : ∀ k, k < 5 → parseFieldDescriptor (TX3 k).2.2.1 = some (tyX3 k) := by decide +kernel
abbrev cX3_init : ByteArray := prog_5_method_1_code
def yX3_init : MethodName := ⟨RX3, "<init>", "()V"⟩
abbrev cX3_search : ByteArray := prog_5_method_2_code
def yX3_search : MethodName := ⟨RX3, "search", "(LTopStreet$Street;II)V"⟩
abbrev cX3_walk : ByteArray := prog_5_method_3_code
def yX3_walk : MethodName := ⟨RX3, "walk", "(LTopStreet$Round;III)V"⟩
abbrev cX3_weigh : ByteArray := prog_5_method_4_code
def yX3_weigh : MethodName := ⟨RX3, "weigh", "(LTopStreet$Street;)V"⟩
abbrev cX3_leastSpin : ByteArray := prog_5_method_5_code
def yX3_leastSpin : MethodName := ⟨RX3, "leastSpin", "(LTopStreet$Street;)I"⟩
def RX4 : String := "TopStreet$Row"
def TX4 : u_T := fun k => match k with
  | 0 => ("TopStreet$Row", "items", "[I", true)
  | 1 => ("TopStreet$Row", "missing", "Z", false)
  | 2 => ("TopStreet$Row", "lane", "I", false)
  | _ => ("TopStreet$Row", "size", "I", false)
def tyX4 : Nat → FieldType := fun k => match k with
  | 0 => .array .int
  | 1 => .boolean
  | 2 => .int
  | _ => .int
abbrev wsX40 : List Cond := u_ws RX4 TX4 4
theorem nmX4 : ∀ a, a < 4 → ∀ b, b < 4 → a ≠ b → (TX4 a).2.1 ≠ (TX4 b).2.1 := by decide +kernel
theorem tyX4_ok : ∀ k, k < 4 → parseFieldDescriptor (TX4 k).2.2.1 = some (tyX4 k) := by decide +kernel
abbrev cX4_init : ByteArray := prog_6_method_1_code
def yX4_init : MethodName := ⟨RX4, "<init>", "()V"⟩
abbrev cX4_make : ByteArray := prog_6_method_2_code
def yX4_make : MethodName := ⟨RX4, "make", "(II)V"⟩
abbrev cX4_put : ByteArray := prog_6_method_3_code
def yX4_put : MethodName := ⟨RX4, "put", "(II)I"⟩
abbrev cX4_spanFinding : ByteArray := prog_6_method_4_code
def yX4_spanFinding : MethodName := ⟨RX4, "spanFinding", "(II)I"⟩
def RX5 : String := "TopStreet$Street"
def TX5 : u_T := fun k => match k with
  | 0 => ("TopStreet$Street", "kind", "[I", true)
  | 1 => ("TopStreet$Street", "rub", "[I", true)
  | 2 => ("TopStreet$Street", "spin", "[I", true)
  | 3 => ("TopStreet$Street", "houses", "I", false)
  | 4 => ("TopStreet$Street", "lash", "I", false)
  | 5 => ("TopStreet$Street", "lean", "I", false)
  | 6 => ("TopStreet$Street", "hour", "I", false)
  | _ => ("TopStreet$Street", "walls", "I", false)
def tyX5 : Nat → FieldType := fun k => match k with
  | 0 => .array .int
  | 1 => .array .int
  | 2 => .array .int
  | 3 => .int
  | 4 => .int
  | 5 => .int
  | 6 => .int
  | _ => .int
abbrev wsX50 : List Cond := u_ws RX5 TX5 8
theorem nmX5 : ∀ a, a < 8 → ∀ b, b < 8 → a ≠ b → (TX5 a).2.1 ≠ (TX5 b).2.1 := by decide +kernel
theorem tyX5_ok : ∀ k, k < 8 → parseFieldDescriptor (TX5 k).2.2.1 = some (tyX5 k) := by decide +kernel
abbrev cX5_init : ByteArray := prog_7_method_1_code
def yX5_init : MethodName := ⟨RX5, "<init>", "()V"⟩
abbrev cX5_add : ByteArray := prog_7_method_2_code
def yX5_add : MethodName := ⟨RX5, "add", "(III)V"⟩
abbrev cX5_take : ByteArray := prog_7_method_3_code
def yX5_take : MethodName := ⟨RX5, "take", "(LTopStreet$Street;)V"⟩
abbrev cX5_raise : ByteArray := prog_7_method_4_code
def yX5_raise : MethodName := ⟨RX5, "raise", "(II)V"⟩
abbrev cX5_leans : ByteArray := prog_7_method_5_code
def yX5_leans : MethodName := ⟨RX5, "leans", "(I)Z"⟩
abbrev cX5_wallsOf : ByteArray := prog_7_method_6_code
def yX5_wallsOf : MethodName := ⟨RX5, "wallsOf", "(I)I"⟩
abbrev cX5_standing : ByteArray := prog_7_method_7_code
def yX5_standing : MethodName := ⟨RX5, "standing", "()I"⟩
abbrev cX5_leaning : ByteArray := prog_7_method_8_code
def yX5_leaning : MethodName := ⟨RX5, "leaning", "()I"⟩
abbrev cX5_allSpin : ByteArray := prog_7_method_9_code
def yX5_allSpin : MethodName := ⟨RX5, "allSpin", "()I"⟩
abbrev cX5_loss : ByteArray := prog_7_method_10_code
def yX5_loss : MethodName := ⟨RX5, "loss", "(I)I"⟩
abbrev cX5_pass : ByteArray := prog_7_method_11_code
def yX5_pass : MethodName := ⟨RX5, "pass", "()V"⟩
abbrev cX5_passAll : ByteArray := prog_7_method_12_code
def yX5_passAll : MethodName := ⟨RX5, "passAll", "(I)V"⟩
abbrev cX5_lacking : ByteArray := prog_7_method_13_code
def yX5_lacking : MethodName := ⟨RX5, "lacking", "(I)I"⟩
abbrev cX5_yards : ByteArray := prog_7_method_14_code
def yX5_yards : MethodName := ⟨RX5, "yards", "(II)I"⟩
def RX6 : String := "TopStreet$Tape"
def TX6 : u_T := fun k => match k with
  | 0 => ("TopStreet$Tape", "told", "LTopStreet$Street;", true)
  | 1 => ("TopStreet$Tape", "count", "I", false)
  | 2 => ("TopStreet$Tape", "at", "I", false)
  | 3 => ("TopStreet$Tape", "fault", "I", false)
  | _ => ("TopStreet$Tape", "bytes", "[I", true)
def tyX6 : Nat → FieldType := fun k => match k with
  | 0 => .object "TopStreet$Street"
  | 1 => .int
  | 2 => .int
  | 3 => .int
  | _ => .array .int
abbrev wsX60 : List Cond := u_ws RX6 TX6 5
theorem nmX6 : ∀ a, a < 5 → ∀ b, b < 5 → a ≠ b → (TX6 a).2.1 ≠ (TX6 b).2.1 := by decide +kernel
theorem tyX6_ok : ∀ k, k < 5 → parseFieldDescriptor (TX6 k).2.2.1 = some (tyX6 k) := by decide +kernel
abbrev cX6_init : ByteArray := prog_8_method_1_code
def yX6_init : MethodName := ⟨RX6, "<init>", "()V"⟩
abbrev cX6_add : ByteArray := prog_8_method_2_code
def yX6_add : MethodName := ⟨RX6, "add", "(I)I"⟩
abbrev cX6_read : ByteArray := prog_8_method_3_code
def yX6_read : MethodName := ⟨RX6, "read", "()V"⟩
abbrev cX6_readHouse : ByteArray := prog_8_method_4_code
def yX6_readHouse : MethodName := ⟨RX6, "readHouse", "()V"⟩
abbrev cX6_readSort : ByteArray := prog_8_method_5_code
def yX6_readSort : MethodName := ⟨RX6, "readSort", "()I"⟩
abbrev cX6_readSign : ByteArray := prog_8_method_6_code
def yX6_readSign : MethodName := ⟨RX6, "readSign", "(I)V"⟩
abbrev cX6_step : ByteArray := prog_8_method_7_code
def yX6_step : MethodName := ⟨RX6, "step", "(Z)V"⟩
abbrev cX6_readNumber : ByteArray := prog_8_method_8_code
def yX6_readNumber : MethodName := ⟨RX6, "readNumber", "(II)I"⟩
def RX7 : String := "TopStreet"
def TX7 : u_T := fun k => match k with
  | 0 => ("TopStreet", "rows", "[LTopStreet$Row;", true)
  | 1 => ("TopStreet", "tape", "LTopStreet$Tape;", true)
  | 2 => ("TopStreet", "now", "LTopStreet$Street;", true)
  | 3 => ("TopStreet", "images", "[LTopStreet$Street;", true)
  | 4 => ("TopStreet", "acts", "LTopStreet$Acts;", true)
  | 5 => ("TopStreet", "foretold", "LTopStreet$Foretold;", true)
  | 6 => ("TopStreet", "rounds", "LTopStreet$Round;", true)
  | 7 => ("TopStreet", "asks", "LTopStreet$Asks;", true)
  | 8 => ("TopStreet", "latestFault", "I", false)
  | _ => ("TopStreet", "latestFinding", "I", false)
def tyX7 : Nat → FieldType := fun k => match k with
  | 0 => .array (.object "TopStreet$Row")
  | 1 => .object "TopStreet$Tape"
  | 2 => .object "TopStreet$Street"
  | 3 => .array (.object "TopStreet$Street")
  | 4 => .object "TopStreet$Acts"
  | 5 => .object "TopStreet$Foretold"
  | 6 => .object "TopStreet$Round"
  | 7 => .object "TopStreet$Asks"
  | 8 => .int
  | _ => .int
abbrev wsX70 : List Cond := u_ws RX7 TX7 10
theorem nmX7 : ∀ a, a < 10 → ∀ b, b < 10 → a ≠ b → (TX7 a).2.1 ≠ (TX7 b).2.1 := by decide +kernel
theorem tyX7_ok : ∀ k, k < 10 → parseFieldDescriptor (TX7 k).2.2.1 = some (tyX7 k) := by decide +kernel
abbrev cX7_init : ByteArray := prog_1_method_1_code
def yX7_init : MethodName := ⟨RX7, "<init>", "()V"⟩
abbrev cX7_row : ByteArray := prog_1_method_2_code
def yX7_row : MethodName := ⟨RX7, "row", "(III)I"⟩
abbrev cX7_set : ByteArray := prog_1_method_3_code
def yX7_set : MethodName := ⟨RX7, "set", "(III)I"⟩
abbrev cX7_copy : ByteArray := prog_1_method_4_code
def yX7_copy : MethodName := ⟨RX7, "copy", "(IIIII)I"⟩
abbrev cX7_drop : ByteArray := prog_1_method_5_code
def yX7_drop : MethodName := ⟨RX7, "drop", "(I)I"⟩
abbrev cX7_feed : ByteArray := prog_1_method_6_code
def yX7_feed : MethodName := ⟨RX7, "feed", "(I)I"⟩
abbrev cX7_street : ByteArray := prog_1_method_7_code
def yX7_street : MethodName := ⟨RX7, "street", "()I"⟩
abbrev cX7_fault : ByteArray := prog_1_method_8_code
def yX7_fault : MethodName := ⟨RX7, "fault", "()I"⟩
abbrev cX7_undo : ByteArray := prog_1_method_9_code
def yX7_undo : MethodName := ⟨RX7, "undo", "()I"⟩
abbrev cX7_hours : ByteArray := prog_1_method_10_code
def yX7_hours : MethodName := ⟨RX7, "hours", "(I)I"⟩
abbrev cX7_lash : ByteArray := prog_1_method_11_code
def yX7_lash : MethodName := ⟨RX7, "lash", "(I)I"⟩
abbrev cX7_touch : ByteArray := prog_1_method_12_code
def yX7_touch : MethodName := ⟨RX7, "touch", "(II)I"⟩
abbrev cX7_putUp : ByteArray := prog_1_method_13_code
def yX7_putUp : MethodName := ⟨RX7, "putUp", "(I)I"⟩
abbrev cX7_house : ByteArray := prog_1_method_14_code
def yX7_house : MethodName := ⟨RX7, "house", "(II)I"⟩
abbrev cX7_stand : ByteArray := prog_1_method_15_code
def yX7_stand : MethodName := ⟨RX7, "stand", "(I)I"⟩
abbrev cX7_ahead : ByteArray := prog_1_method_16_code
def yX7_ahead : MethodName := ⟨RX7, "ahead", "(II)I"⟩
abbrev cX7_when : ByteArray := prog_1_method_17_code
def yX7_when : MethodName := ⟨RX7, "when", "(II)I"⟩
abbrev cX7_first : ByteArray := prog_1_method_18_code
def yX7_first : MethodName := ⟨RX7, "first", "(I)I"⟩
abbrev cX7_left : ByteArray := prog_1_method_19_code
def yX7_left : MethodName := ⟨RX7, "left", "(I)I"⟩
abbrev cX7_round : ByteArray := prog_1_method_20_code
def yX7_round : MethodName := ⟨RX7, "round", "(III)I"⟩
abbrev cX7_walls : ByteArray := prog_1_method_21_code
def yX7_walls : MethodName := ⟨RX7, "walls", "(II)I"⟩
abbrev cX7_steady : ByteArray := prog_1_method_22_code
def yX7_steady : MethodName := ⟨RX7, "steady", "(II)I"⟩
abbrev cX7_boys : ByteArray := prog_1_method_23_code
def yX7_boys : MethodName := ⟨RX7, "boys", "(II)I"⟩
abbrev cX7_string : ByteArray := prog_1_method_24_code
def yX7_string : MethodName := ⟨RX7, "string", "(II)I"⟩
abbrev cX7_who : ByteArray := prog_1_method_25_code
def yX7_who : MethodName := ⟨RX7, "who", "(IIIII)I"⟩
abbrev cX7_finger : ByteArray := prog_1_method_26_code
def yX7_finger : MethodName := ⟨RX7, "finger", "(IIII)I"⟩
abbrev cX7_lashes : ByteArray := prog_1_method_27_code
def yX7_lashes : MethodName := ⟨RX7, "lashes", "(IIIII)I"⟩
abbrev cX7_crack : ByteArray := prog_1_method_28_code
def yX7_crack : MethodName := ⟨RX7, "crack", "(IIII)J"⟩
abbrev cX7_drawn : ByteArray := prog_1_method_29_code
def yX7_drawn : MethodName := ⟨RX7, "drawn", "(III)I"⟩
abbrev cX7_image : ByteArray := prog_1_method_30_code
def yX7_image : MethodName := ⟨RX7, "image", "(I)I"⟩
abbrev cX7_restore : ByteArray := prog_1_method_31_code
def yX7_restore : MethodName := ⟨RX7, "restore", "(I)I"⟩
abbrev cX7_kind : ByteArray := prog_1_method_32_code
def yX7_kind : MethodName := ⟨RX7, "kind", "(I)I"⟩
abbrev cX7_as : ByteArray := prog_1_method_33_code
def yX7_as : MethodName := ⟨RX7, "as", "(II)I"⟩
abbrev cX7_ask : ByteArray := prog_1_method_34_code
def yX7_ask : MethodName := ⟨RX7, "ask", "(II)I"⟩
abbrev cX7_trace : ByteArray := prog_1_method_35_code
def yX7_trace : MethodName := ⟨RX7, "trace", "(I)I"⟩
abbrev cX7_count : ByteArray := prog_1_method_36_code
def yX7_count : MethodName := ⟨RX7, "count", "(I)I"⟩
abbrev cX7_status : ByteArray := prog_1_method_37_code
def yX7_status : MethodName := ⟨RX7, "status", "()I"⟩
abbrev cX7_within : ByteArray := prog_1_method_38_code
def yX7_within : MethodName := ⟨RX7, "within", "(III)Z"⟩
abbrev cX7_isRow : ByteArray := prog_1_method_39_code
def yX7_isRow : MethodName := ⟨RX7, "isRow", "(I)Z"⟩
abbrev cX7_isHouse : ByteArray := prog_1_method_40_code
def yX7_isHouse : MethodName := ⟨RX7, "isHouse", "(I)Z"⟩
abbrev cX7_noStreet : ByteArray := prog_1_method_41_code
def yX7_noStreet : MethodName := ⟨RX7, "noStreet", "()Z"⟩
abbrev cX7_found : ByteArray := prog_1_method_42_code
def yX7_found : MethodName := ⟨RX7, "found", "(I)I"⟩
abbrev cX7_fine : ByteArray := prog_1_method_43_code
def yX7_fine : MethodName := ⟨RX7, "fine", "(I)I"⟩
abbrev cX7_rowsThere : ByteArray := prog_1_method_44_code
def yX7_rowsThere : MethodName := ⟨RX7, "rowsThere", "()I"⟩
abbrev cX7_copyFinding : ByteArray := prog_1_method_45_code
def yX7_copyFinding : MethodName := ⟨RX7, "copyFinding", "(LTopStreet$Row;ILTopStreet$Row;II)I"⟩
abbrev cX7_isOfKind : ByteArray := prog_1_method_46_code
def yX7_isOfKind : MethodName := ⟨RX7, "isOfKind", "(II)Z"⟩
def RX8 : String := "TopStreetModel"
def TX8 : u_T := fun k => match k with
  | 0 => ("TopStreetModel", "lanes", "[I", true)
  | 1 => ("TopStreetModel", "sizes", "[I", true)
  | 2 => ("TopStreetModel", "items", "[I", true)
  | 3 => ("TopStreetModel", "status", "I", false)
  | 4 => ("TopStreetModel", "isThere", "Z", false)
  | 5 => ("TopStreetModel", "st", "[I", true)
  | 6 => ("TopStreetModel", "moved", "[I", true)
  | 7 => ("TopStreetModel", "tape", "[I", true)
  | 8 => ("TopStreetModel", "bytes", "I", false)
  | 9 => ("TopStreetModel", "latest", "I", false)
  | 10 => ("TopStreetModel", "place", "I", false)
  | 11 => ("TopStreetModel", "token", "I", false)
  | 12 => ("TopStreetModel", "value", "I", false)
  | 13 => ("TopStreetModel", "begins", "I", false)
  | 14 => ("TopStreetModel", "wrong", "I", false)
  | 15 => ("TopStreetModel", "read", "[I", true)
  | 16 => ("TopStreetModel", "acts", "[I", true)
  | 17 => ("TopStreetModel", "actMany", "I", false)
  | 18 => ("TopStreetModel", "aside", "[I", true)
  | 19 => ("TopStreetModel", "comes", "[I", true)
  | 20 => ("TopStreetModel", "isKept", "[Z", true)
  | 21 => ("TopStreetModel", "kept", "[I", true)
  | 22 => ("TopStreetModel", "trace", "[I", true)
  | _ => ("TopStreetModel", "traced", "I", false)
def tyX8 : Nat → FieldType := fun k => match k with
  | 0 => .array .int
  | 1 => .array .int
  | 2 => .array .int
  | 3 => .int
  | 4 => .boolean
  | 5 => .array .int
  | 6 => .array .int
  | 7 => .array .int
  | 8 => .int
  | 9 => .int
  | 10 => .int
  | 11 => .int
  | 12 => .int
  | 13 => .int
  | 14 => .int
  | 15 => .array .int
  | 16 => .array .int
  | 17 => .int
  | 18 => .array .int
  | 19 => .array .int
  | 20 => .array .boolean
  | 21 => .array .int
  | 22 => .array .int
  | _ => .int
abbrev wsX80 : List Cond := u_ws RX8 TX8 24
theorem nmX8 : ∀ a, a < 24 → ∀ b, b < 24 → a ≠ b → (TX8 a).2.1 ≠ (TX8 b).2.1 := by decide +kernel
theorem tyX8_ok : ∀ k, k < 24 → parseFieldDescriptor (TX8 k).2.2.1 = some (tyX8 k) := by decide +kernel
abbrev cX8_init : ByteArray := prog_10_method_1_code
def yX8_init : MethodName := ⟨RX8, "<init>", "()V"⟩
abbrev cX8_in : ByteArray := prog_10_method_2_code
def yX8_in : MethodName := ⟨RX8, "in", "(JJJ)Z"⟩
abbrev cX8_has : ByteArray := prog_10_method_3_code
def yX8_has : MethodName := ⟨RX8, "has", "(II)Z"⟩
abbrev cX8_ones : ByteArray := prog_10_method_4_code
def yX8_ones : MethodName := ⟨RX8, "ones", "(I)I"⟩
abbrev cX8_find : ByteArray := prog_10_method_5_code
def yX8_find : MethodName := ⟨RX8, "find", "(I)I"⟩
abbrev cX8_well : ByteArray := prog_10_method_6_code
def yX8_well : MethodName := ⟨RX8, "well", "(I)I"⟩
abbrev cX8_isRow : ByteArray := prog_10_method_7_code
def yX8_isRow : MethodName := ⟨RX8, "isRow", "(I)Z"⟩
abbrev cX8_row : ByteArray := prog_10_method_8_code
def yX8_row : MethodName := ⟨RX8, "row", "(III)I"⟩
abbrev cX8_asLane : ByteArray := prog_10_method_9_code
def yX8_asLane : MethodName := ⟨RX8, "asLane", "(II)I"⟩
abbrev cX8_set : ByteArray := prog_10_method_10_code
def yX8_set : MethodName := ⟨RX8, "set", "(III)I"⟩
abbrev cX8_copy : ByteArray := prog_10_method_11_code
def yX8_copy : MethodName := ⟨RX8, "copy", "(IIIII)I"⟩
abbrev cX8_drop : ByteArray := prog_10_method_12_code
def yX8_drop : MethodName := ⟨RX8, "drop", "(I)I"⟩
abbrev cX8_feed : ByteArray := prog_10_method_13_code
def yX8_feed : MethodName := ⟨RX8, "feed", "(I)I"⟩
abbrev cX8_nextToken : ByteArray := prog_10_method_14_code
def yX8_nextToken : MethodName := ⟨RX8, "nextToken", "()V"⟩
abbrev cX8_faults : ByteArray := prog_10_method_15_code
def yX8_faults : MethodName := ⟨RX8, "faults", "(I)Z"⟩
abbrev cX8_takes : ByteArray := prog_10_method_16_code
def yX8_takes : MethodName := ⟨RX8, "takes", "(I)Z"⟩
abbrev cX8_takesNumber : ByteArray := prog_10_method_17_code
def yX8_takesNumber : MethodName := ⟨RX8, "takesNumber", "(IIII)Z"⟩
abbrev cX8_kindBy : ByteArray := prog_10_method_18_code
def yX8_kindBy : MethodName := ⟨RX8, "kindBy", "(I)I"⟩
abbrev cX8_readHouse : ByteArray := prog_10_method_19_code
def yX8_readHouse : MethodName := ⟨RX8, "readHouse", "()Z"⟩
abbrev cX8_readStreet : ByteArray := prog_10_method_20_code
def yX8_readStreet : MethodName := ⟨RX8, "readStreet", "()Z"⟩
abbrev cX8_street : ByteArray := prog_10_method_21_code
def yX8_street : MethodName := ⟨RX8, "street", "()I"⟩
abbrev cX8_fault : ByteArray := prog_10_method_22_code
def yX8_fault : MethodName := ⟨RX8, "fault", "()I"⟩
abbrev cX8_isHouse : ByteArray := prog_10_method_23_code
def yX8_isHouse : MethodName := ⟨RX8, "isHouse", "(I)Z"⟩
abbrev cX8_stands : ByteArray := prog_10_method_24_code
def yX8_stands : MethodName := ⟨RX8, "stands", "(I)Z"⟩
abbrev cX8_leans : ByteArray := prog_10_method_25_code
def yX8_leans : MethodName := ⟨RX8, "leans", "(I)Z"⟩
abbrev cX8_touches : ByteArray := prog_10_method_26_code
def yX8_touches : MethodName := ⟨RX8, "touches", "(I)I"⟩
abbrev cX8_lossOf : ByteArray := prog_10_method_27_code
def yX8_lossOf : MethodName := ⟨RX8, "lossOf", "(I)I"⟩
abbrev cX8_loses : ByteArray := prog_10_method_28_code
def yX8_loses : MethodName := ⟨RX8, "loses", "(II)V"⟩
abbrev cX8_standing : ByteArray := prog_10_method_29_code
def yX8_standing : MethodName := ⟨RX8, "standing", "()I"⟩
abbrev cX8_oneHour : ByteArray := prog_10_method_30_code
def yX8_oneHour : MethodName := ⟨RX8, "oneHour", "()V"⟩
abbrev cX8_lashBy : ByteArray := prog_10_method_31_code
def yX8_lashBy : MethodName := ⟨RX8, "lashBy", "(II)V"⟩
abbrev cX8_spinOf : ByteArray := prog_10_method_32_code
def yX8_spinOf : MethodName := ⟨RX8, "spinOf", "(II)I"⟩
abbrev cX8_note : ByteArray := prog_10_method_33_code
def yX8_note : MethodName := ⟨RX8, "note", "()V"⟩
abbrev cX8_undo : ByteArray := prog_10_method_34_code
def yX8_undo : MethodName := ⟨RX8, "undo", "()I"⟩
abbrev cX8_hours : ByteArray := prog_10_method_35_code
def yX8_hours : MethodName := ⟨RX8, "hours", "(I)I"⟩
abbrev cX8_lash : ByteArray := prog_10_method_36_code
def yX8_lash : MethodName := ⟨RX8, "lash", "(I)I"⟩
abbrev cX8_touch : ByteArray := prog_10_method_37_code
def yX8_touch : MethodName := ⟨RX8, "touch", "(II)I"⟩
abbrev cX8_putUp : ByteArray := prog_10_method_38_code
def yX8_putUp : MethodName := ⟨RX8, "putUp", "(I)I"⟩
abbrev cX8_house : ByteArray := prog_10_method_39_code
def yX8_house : MethodName := ⟨RX8, "house", "(II)I"⟩
abbrev cX8_leaning : ByteArray := prog_10_method_40_code
def yX8_leaning : MethodName := ⟨RX8, "leaning", "()I"⟩
abbrev cX8_stand : ByteArray := prog_10_method_41_code
def yX8_stand : MethodName := ⟨RX8, "stand", "(I)I"⟩
abbrev cX8_putAside : ByteArray := prog_10_method_42_code
def yX8_putAside : MethodName := ⟨RX8, "putAside", "()V"⟩
abbrev cX8_takeBack : ByteArray := prog_10_method_43_code
def yX8_takeBack : MethodName := ⟨RX8, "takeBack", "()V"⟩
abbrev cX8_goOn : ByteArray := prog_10_method_44_code
def yX8_goOn : MethodName := ⟨RX8, "goOn", "(I)V"⟩
abbrev cX8_leftBehind : ByteArray := prog_10_method_45_code
def yX8_leftBehind : MethodName := ⟨RX8, "leftBehind", "(I)I"⟩
abbrev cX8_isWhat : ByteArray := prog_10_method_46_code
def yX8_isWhat : MethodName := ⟨RX8, "isWhat", "(I)Z"⟩
abbrev cX8_ahead : ByteArray := prog_10_method_47_code
def yX8_ahead : MethodName := ⟨RX8, "ahead", "(II)I"⟩
abbrev cX8_isHow : ByteArray := prog_10_method_48_code
def yX8_isHow : MethodName := ⟨RX8, "isHow", "(II)Z"⟩
abbrev cX8_when : ByteArray := prog_10_method_49_code
def yX8_when : MethodName := ⟨RX8, "when", "(II)I"⟩
abbrev cX8_least : ByteArray := prog_10_method_50_code
def yX8_least : MethodName := ⟨RX8, "least", "(I)I"⟩
abbrev cX8_first : ByteArray := prog_10_method_51_code
def yX8_first : MethodName := ⟨RX8, "first", "(I)I"⟩
abbrev cX8_left : ByteArray := prog_10_method_52_code
def yX8_left : MethodName := ⟨RX8, "left", "(I)I"⟩
abbrev cX8_leastSpin : ByteArray := prog_10_method_53_code
def yX8_leastSpin : MethodName := ⟨RX8, "leastSpin", "()I"⟩
abbrev cX8_goesRound : ByteArray := prog_10_method_54_code
def yX8_goesRound : MethodName := ⟨RX8, "goesRound", "(IIII)Z"⟩
abbrev cX8_round : ByteArray := prog_10_method_55_code
def yX8_round : MethodName := ⟨RX8, "round", "(III)I"⟩
abbrev cX8_walls : ByteArray := prog_10_method_56_code
def yX8_walls : MethodName := ⟨RX8, "walls", "(II)I"⟩
abbrev cX8_steady : ByteArray := prog_10_method_57_code
def yX8_steady : MethodName := ⟨RX8, "steady", "(II)I"⟩
abbrev cX8_lashTurns : ByteArray := prog_10_method_58_code
def yX8_lashTurns : MethodName := ⟨RX8, "lashTurns", "(II)V"⟩
abbrev cX8_boys : ByteArray := prog_10_method_59_code
def yX8_boys : MethodName := ⟨RX8, "boys", "(II)I"⟩
abbrev cX8_lackOf : ByteArray := prog_10_method_60_code
def yX8_lackOf : MethodName := ⟨RX8, "lackOf", "(I)I"⟩
abbrev cX8_string : ByteArray := prog_10_method_61_code
def yX8_string : MethodName := ⟨RX8, "string", "(II)I"⟩
abbrev cX8_lacks : ByteArray := prog_10_method_62_code
def yX8_lacks : MethodName := ⟨RX8, "lacks", "(III)I"⟩
abbrev cX8_isSo : ByteArray := prog_10_method_63_code
def yX8_isSo : MethodName := ⟨RX8, "isSo", "(III)Z"⟩
abbrev cX8_spinsBy : ByteArray := prog_10_method_64_code
def yX8_spinsBy : MethodName := ⟨RX8, "spinsBy", "(IIII)I"⟩
abbrev cX8_who : ByteArray := prog_10_method_65_code
def yX8_who : MethodName := ⟨RX8, "who", "(IIIII)I"⟩
abbrev cX8_finger : ByteArray := prog_10_method_66_code
def yX8_finger : MethodName := ⟨RX8, "finger", "(IIII)I"⟩
abbrev cX8_lashes : ByteArray := prog_10_method_67_code
def yX8_lashes : MethodName := ⟨RX8, "lashes", "(IIIII)I"⟩
abbrev cX8_crack : ByteArray := prog_10_method_68_code
def yX8_crack : MethodName := ⟨RX8, "crack", "(IIII)J"⟩
abbrev cX8_drawn : ByteArray := prog_10_method_69_code
def yX8_drawn : MethodName := ⟨RX8, "drawn", "(III)I"⟩
abbrev cX8_image : ByteArray := prog_10_method_70_code
def yX8_image : MethodName := ⟨RX8, "image", "(I)I"⟩
abbrev cX8_restore : ByteArray := prog_10_method_71_code
def yX8_restore : MethodName := ⟨RX8, "restore", "(I)I"⟩
abbrev cX8_kind : ByteArray := prog_10_method_72_code
def yX8_kind : MethodName := ⟨RX8, "kind", "(I)I"⟩
abbrev cX8_isKind : ByteArray := prog_10_method_73_code
def yX8_isKind : MethodName := ⟨RX8, "isKind", "(II)Z"⟩
abbrev cX8_as : ByteArray := prog_10_method_74_code
def yX8_as : MethodName := ⟨RX8, "as", "(II)I"⟩
abbrev cX8_begin : ByteArray := prog_10_method_75_code
def yX8_begin : MethodName := ⟨RX8, "begin", "(I)V"⟩
abbrev cX8_lent : ByteArray := prog_10_method_76_code
def yX8_lent : MethodName := ⟨RX8, "lent", "(II)I"⟩
abbrev cX8_woodMark : ByteArray := prog_10_method_77_code
def yX8_woodMark : MethodName := ⟨RX8, "woodMark", "(I)I"⟩
abbrev cX8_parishSize : ByteArray := prog_10_method_78_code
def yX8_parishSize : MethodName := ⟨RX8, "parishSize", "(I)I"⟩
abbrev cX8_sizeOfParish : ByteArray := prog_10_method_79_code
def yX8_sizeOfParish : MethodName := ⟨RX8, "sizeOfParish", "(I)I"⟩
abbrev cX8_markOf : ByteArray := prog_10_method_80_code
def yX8_markOf : MethodName := ⟨RX8, "markOf", "(I)I"⟩
abbrev cX8_woodSize : ByteArray := prog_10_method_81_code
def yX8_woodSize : MethodName := ⟨RX8, "woodSize", "(I)I"⟩
abbrev cX8_sizeOf : ByteArray := prog_10_method_82_code
def yX8_sizeOf : MethodName := ⟨RX8, "sizeOf", "(I)I"⟩
abbrev cX8_ask : ByteArray := prog_10_method_83_code
def yX8_ask : MethodName := ⟨RX8, "ask", "(II)I"⟩
abbrev cX8_trace : ByteArray := prog_10_method_84_code
def yX8_trace : MethodName := ⟨RX8, "trace", "(I)I"⟩
abbrev cX8_count : ByteArray := prog_10_method_85_code
def yX8_count : MethodName := ⟨RX8, "count", "(I)I"⟩
abbrev cX8_status : ByteArray := prog_10_method_86_code
def yX8_status : MethodName := ⟨RX8, "status", "()I"⟩
def RJ11 : String := "java/lang/Character"
def TJ11 : u_T := fun k => match k with
  | _ => ("", "", "", false)
def tyJ11 : Nat → FieldType := fun k => match k with
  | _ => .int
abbrev wsJ110 : List Cond := u_ws RJ11 TJ11 0
theorem nmJ11 : ∀ a, a < 0 → ∀ b, b < 0 → a ≠ b → (TJ11 a).2.1 ≠ (TJ11 b).2.1 := by decide +kernel
theorem tyJ11_ok : ∀ k, k < 0 → parseFieldDescriptor (TJ11 k).2.2.1 = some (tyJ11 k) := by decide +kernel
abbrev cJ11_isValidCodePoint_9a6ad : ByteArray := prog_11_method_11_code
def yJ11_isValidCodePoint_9a6ad : MethodName := ⟨RJ11, "isValidCodePoint", "(I)Z"⟩
abbrev cJ11_highSurrogate_5068e : ByteArray := prog_11_method_28_code
def yJ11_highSurrogate_5068e : MethodName := ⟨RJ11, "highSurrogate", "(I)C"⟩
abbrev cJ11_lowSurrogate_5068e : ByteArray := prog_11_method_29_code
def yJ11_lowSurrogate_5068e : MethodName := ⟨RJ11, "lowSurrogate", "(I)C"⟩
def RJ6 : String := "java/lang/Integer"
def TJ6 : u_T := fun k => match k with
  | _ => ("", "", "", false)
def tyJ6 : Nat → FieldType := fun k => match k with
  | _ => .int
abbrev wsJ60 : List Cond := u_ws RJ6 TJ6 0
theorem nmJ6 : ∀ a, a < 0 → ∀ b, b < 0 → a ≠ b → (TJ6 a).2.1 ≠ (TJ6 b).2.1 := by decide +kernel
theorem tyJ6_ok : ∀ k, k < 0 → parseFieldDescriptor (TJ6 k).2.2.1 = some (tyJ6 k) := by decide +kernel
abbrev cJ6_bitCount_0f7a4 : ByteArray := prog_12_method_49_code
def yJ6_bitCount_0f7a4 : MethodName := ⟨RJ6, "bitCount", "(I)I"⟩
def RJ9 : String := "java/lang/Math"
def TJ9 : u_T := fun k => match k with
  | _ => ("", "", "", false)
def tyJ9 : Nat → FieldType := fun k => match k with
  | _ => .int
abbrev wsJ90 : List Cond := u_ws RJ9 TJ9 0
theorem nmJ9 : ∀ a, a < 0 → ∀ b, b < 0 → a ≠ b → (TJ9 a).2.1 ≠ (TJ9 b).2.1 := by decide +kernel
theorem tyJ9_ok : ∀ k, k < 0 → parseFieldDescriptor (TJ9 k).2.2.1 = some (tyJ9 k) := by decide +kernel
abbrev cJ9_max_7cf53 : ByteArray := prog_13_method_65_code
def yJ9_max_7cf53 : MethodName := ⟨RJ9, "max", "(II)I"⟩
abbrev cJ9_max_f86c9 : ByteArray := prog_13_method_66_code
def yJ9_max_f86c9 : MethodName := ⟨RJ9, "max", "(JJ)J"⟩
abbrev cJ9_min_7cf53 : ByteArray := prog_13_method_69_code
def yJ9_min_7cf53 : MethodName := ⟨RJ9, "min", "(II)I"⟩
def RJ0 : String := "java/lang/String"
def TJ0 : u_T := fun k => match k with
  | _ => ("", "", "", false)
def tyJ0 : Nat → FieldType := fun k => match k with
  | _ => .int
abbrev wsJ00 : List Cond := u_ws RJ0 TJ0 0
theorem nmJ0 : ∀ a, a < 0 → ∀ b, b < 0 → a ≠ b → (TJ0 a).2.1 ≠ (TJ0 b).2.1 := by decide +kernel
theorem tyJ0_ok : ∀ k, k < 0 → parseFieldDescriptor (TJ0 k).2.2.1 = some (tyJ0 k) := by decide +kernel
abbrev cJ0_length_8abf5 : ByteArray := prog_14_method_54_code
def yJ0_length_8abf5 : MethodName := ⟨RJ0, "length", "()I"⟩
abbrev cJ0_indexOf_0f7a4 : ByteArray := prog_14_method_79_code
def yJ0_indexOf_0f7a4 : MethodName := ⟨RJ0, "indexOf", "(I)I"⟩
abbrev cJ0_indexOf_7cf53 : ByteArray := prog_14_method_80_code
def yJ0_indexOf_7cf53 : MethodName := ⟨RJ0, "indexOf", "(II)I"⟩
abbrev cJ0_coder_7d493 : ByteArray := prog_14_method_152_code
def yJ0_coder_7d493 : MethodName := ⟨RJ0, "coder", "()B"⟩
abbrev cJ0_isLatin1_aae02 : ByteArray := prog_14_method_154_code
def yJ0_isLatin1_aae02 : MethodName := ⟨RJ0, "isLatin1", "()Z"⟩
abbrev cJ0_checkBoundsBeginEnd_23922 : ByteArray := prog_14_method_158_code
def yJ0_checkBoundsBeginEnd_23922 : MethodName := ⟨RJ0, "checkBoundsBeginEnd", "(III)V"⟩
def RJ1 : String := "java/lang/StringLatin1"
def TJ1 : u_T := fun k => match k with
  | _ => ("", "", "", false)
def tyJ1 : Nat → FieldType := fun k => match k with
  | _ => .int
abbrev wsJ10 : List Cond := u_ws RJ1 TJ1 0
theorem nmJ1 : ∀ a, a < 0 → ∀ b, b < 0 → a ≠ b → (TJ1 a).2.1 ≠ (TJ1 b).2.1 := by decide +kernel
theorem tyJ1_ok : ∀ k, k < 0 → parseFieldDescriptor (TJ1 k).2.2.1 = some (tyJ1 k) := by decide +kernel
abbrev cJ1_canEncode_9a6ad : ByteArray := prog_15_method_4_code
def yJ1_canEncode_9a6ad : MethodName := ⟨RJ1, "canEncode", "(I)Z"⟩
abbrev cJ1_indexOf_4cfef : ByteArray := prog_15_method_22_code
def yJ1_indexOf_4cfef : MethodName := ⟨RJ1, "indexOf", "([BIII)I"⟩
abbrev cJ1_indexOfChar_4cfef : ByteArray := prog_15_method_23_code
def yJ1_indexOfChar_4cfef : MethodName := ⟨RJ1, "indexOfChar", "([BIII)I"⟩
def RJ2 : String := "java/lang/StringUTF16"
def TJ2 : u_T := fun k => match k with
  | _ => ("", "", "", false)
def tyJ2 : Nat → FieldType := fun k => match k with
  | _ => .int
abbrev wsJ20 : List Cond := u_ws RJ2 TJ2 0
theorem nmJ2 : ∀ a, a < 0 → ∀ b, b < 0 → a ≠ b → (TJ2 a).2.1 ≠ (TJ2 b).2.1 := by decide +kernel
theorem tyJ2_ok : ∀ k, k < 0 → parseFieldDescriptor (TJ2 k).2.2.1 = some (tyJ2 k) := by decide +kernel
abbrev cJ2_getChar_3b067 : ByteArray := prog_16_method_5_code
def yJ2_getChar_3b067 : MethodName := ⟨RJ2, "getChar", "([BI)C"⟩
abbrev cJ2_length_9d52b : ByteArray := prog_16_method_6_code
def yJ2_length_9d52b : MethodName := ⟨RJ2, "length", "([B)I"⟩
abbrev cJ2_indexOf_4cfef : ByteArray := prog_16_method_40_code
def yJ2_indexOf_4cfef : MethodName := ⟨RJ2, "indexOf", "([BIII)I"⟩
abbrev cJ2_indexOfChar_4cfef : ByteArray := prog_16_method_47_code
def yJ2_indexOfChar_4cfef : MethodName := ⟨RJ2, "indexOfChar", "([BIII)I"⟩
abbrev cJ2_indexOfCharUnsafe_4cfef : ByteArray := prog_16_method_48_code
def yJ2_indexOfCharUnsafe_4cfef : MethodName := ⟨RJ2, "indexOfCharUnsafe", "([BIII)I"⟩
abbrev cJ2_indexOfSupplementary_4cfef : ByteArray := prog_16_method_49_code
def yJ2_indexOfSupplementary_4cfef : MethodName := ⟨RJ2, "indexOfSupplementary", "([BIII)I"⟩
abbrev cJ2_checkBoundsBeginEnd_d044e : ByteArray := prog_16_method_93_code
def yJ2_checkBoundsBeginEnd_d044e : MethodName := ⟨RJ2, "checkBoundsBeginEnd", "(II[B)V"⟩
def RJ10 : String := "java/lang/System"
def TJ10 : u_T := fun k => match k with
  | _ => ("", "", "", false)
def tyJ10 : Nat → FieldType := fun k => match k with
  | _ => .int
abbrev wsJ100 : List Cond := u_ws RJ10 TJ10 0
theorem nmJ10 : ∀ a, a < 0 → ∀ b, b < 0 → a ≠ b → (TJ10 a).2.1 ≠ (TJ10 b).2.1 := by decide +kernel
theorem tyJ10_ok : ∀ k, k < 0 → parseFieldDescriptor (TJ10 k).2.2.1 = some (tyJ10 k) := by decide +kernel
def RJ3 : String := "jdk/internal/util/Preconditions"
def TJ3 : u_T := fun k => match k with
  | _ => ("", "", "", false)
def tyJ3 : Nat → FieldType := fun k => match k with
  | _ => .int
abbrev wsJ30 : List Cond := u_ws RJ3 TJ3 0
theorem nmJ3 : ∀ a, a < 0 → ∀ b, b < 0 → a ≠ b → (TJ3 a).2.1 ≠ (TJ3 b).2.1 := by decide +kernel
theorem tyJ3_ok : ∀ k, k < 0 → parseFieldDescriptor (TJ3 k).2.2.1 = some (tyJ3 k) := by decide +kernel
abbrev cJ3_checkFromToIndex_8c36e : ByteArray := prog_18_method_12_code
def yJ3_checkFromToIndex_8c36e : MethodName := ⟨RJ3, "checkFromToIndex", "(IIILjava/util/function/BiFunction;)I"⟩
def RL : String := "TopStreetLaw"
abbrev cL_law : ByteArray := code
def yL_law : MethodName := ⟨RL, "law", "([I)Z"⟩
end
section
theorem dX0_init_0 : decode cX0_init 0 = .ok (.aload_n 0, 1) := by decide +kernel
theorem dX0_init_1 : decode cX0_init 1 = .ok (.invokespecial 3, 3) := by decide +kernel
theorem dX0_init_4 : decode cX0_init 4 = .ok (.aload_n 0, 1) := by decide +kernel
theorem dX0_init_5 : decode cX0_init 5 = .ok (.bipush 24, 2) := by decide +kernel
theorem dX0_init_7 : decode cX0_init 7 = .ok (.anewarray 9, 3) := by decide +kernel
theorem dX0_init_10 : decode cX0_init 10 = .ok (.putfield 11, 3) := by decide +kernel
theorem dX0_init_13 : decode cX0_init 13 = .ok (.iconst 0, 1) := by decide +kernel
theorem dX0_init_14 : decode cX0_init 14 = .ok (.istore_n 1, 1) := by decide +kernel
theorem dX0_init_15 : decode cX0_init 15 = .ok (.iload_n 1, 1) := by decide +kernel
theorem dX0_init_16 : decode cX0_init 16 = .ok (.bipush 24, 2) := by decide +kernel
theorem dX0_init_18 : decode cX0_init 18 = .ok (.if_icmp .ge 22, 3) := by decide +kernel
theorem dX0_init_21 : decode cX0_init 21 = .ok (.aload_n 0, 1) := by decide +kernel
theorem dX0_init_22 : decode cX0_init 22 = .ok (.getfield 11, 3) := by decide +kernel
theorem dX0_init_25 : decode cX0_init 25 = .ok (.iload_n 1, 1) := by decide +kernel
theorem dX0_init_26 : decode cX0_init 26 = .ok (.new 9, 3) := by decide +kernel
theorem dX0_init_29 : decode cX0_init 29 = .ok (.dup, 1) := by decide +kernel
theorem dX0_init_30 : decode cX0_init 30 = .ok (.invokespecial 17, 3) := by decide +kernel
theorem dX0_init_33 : decode cX0_init 33 = .ok (.aastore, 1) := by decide +kernel
theorem dX0_init_34 : decode cX0_init 34 = .ok (.iinc 1 1, 3) := by decide +kernel
theorem dX0_init_37 : decode cX0_init 37 = .ok (.goto (-22), 3) := by decide +kernel
theorem dX0_init_40 : decode cX0_init 40 = .ok (.return_, 1) := by decide +kernel
theorem dX0_forget_0 : decode cX0_forget 0 = .ok (.aload_n 0, 1) := by decide +kernel
theorem dX0_forget_1 : decode cX0_forget 1 = .ok (.iconst 0, 1) := by decide +kernel
theorem dX0_forget_2 : decode cX0_forget 2 = .ok (.putfield 18, 3) := by decide +kernel
theorem dX0_forget_5 : decode cX0_forget 5 = .ok (.return_, 1) := by decide +kernel
theorem dX0_keep_0 : decode cX0_keep 0 = .ok (.aload_n 0, 1) := by decide +kernel
theorem dX0_keep_1 : decode cX0_keep 1 = .ok (.getfield 11, 3) := by decide +kernel
theorem dX0_keep_4 : decode cX0_keep 4 = .ok (.aload_n 0, 1) := by decide +kernel
theorem dX0_keep_5 : decode cX0_keep 5 = .ok (.getfield 22, 3) := by decide +kernel
theorem dX0_keep_8 : decode cX0_keep 8 = .ok (.aload_n 0, 1) := by decide +kernel
theorem dX0_keep_9 : decode cX0_keep 9 = .ok (.getfield 18, 3) := by decide +kernel
theorem dX0_keep_12 : decode cX0_keep 12 = .ok (.iadd, 1) := by decide +kernel
theorem dX0_keep_13 : decode cX0_keep 13 = .ok (.bipush 24, 2) := by decide +kernel
theorem dX0_keep_15 : decode cX0_keep 15 = .ok (.irem, 1) := by decide +kernel
theorem dX0_keep_16 : decode cX0_keep 16 = .ok (.aaload, 1) := by decide +kernel
theorem dX0_keep_17 : decode cX0_keep 17 = .ok (.aload_n 1, 1) := by decide +kernel
theorem dX0_keep_18 : decode cX0_keep 18 = .ok (.invokevirtual 25, 3) := by decide +kernel
theorem dX0_keep_21 : decode cX0_keep 21 = .ok (.aload_n 0, 1) := by decide +kernel
theorem dX0_keep_22 : decode cX0_keep 22 = .ok (.getfield 18, 3) := by decide +kernel
theorem dX0_keep_25 : decode cX0_keep 25 = .ok (.bipush 24, 2) := by decide +kernel
theorem dX0_keep_27 : decode cX0_keep 27 = .ok (.if_icmp .ge 16, 3) := by decide +kernel
theorem dX0_keep_30 : decode cX0_keep 30 = .ok (.aload_n 0, 1) := by decide +kernel
theorem dX0_keep_31 : decode cX0_keep 31 = .ok (.dup, 1) := by decide +kernel
theorem dX0_keep_32 : decode cX0_keep 32 = .ok (.getfield 18, 3) := by decide +kernel
theorem dX0_keep_35 : decode cX0_keep 35 = .ok (.iconst 1, 1) := by decide +kernel
theorem dX0_keep_36 : decode cX0_keep 36 = .ok (.iadd, 1) := by decide +kernel
theorem dX0_keep_37 : decode cX0_keep 37 = .ok (.putfield 18, 3) := by decide +kernel
theorem dX0_keep_40 : decode cX0_keep 40 = .ok (.goto 16, 3) := by decide +kernel
theorem dX0_keep_43 : decode cX0_keep 43 = .ok (.aload_n 0, 1) := by decide +kernel
theorem dX0_keep_44 : decode cX0_keep 44 = .ok (.aload_n 0, 1) := by decide +kernel
theorem dX0_keep_45 : decode cX0_keep 45 = .ok (.getfield 22, 3) := by decide +kernel
theorem dX0_keep_48 : decode cX0_keep 48 = .ok (.iconst 1, 1) := by decide +kernel
theorem dX0_keep_49 : decode cX0_keep 49 = .ok (.iadd, 1) := by decide +kernel
theorem dX0_keep_50 : decode cX0_keep 50 = .ok (.bipush 24, 2) := by decide +kernel
theorem dX0_keep_52 : decode cX0_keep 52 = .ok (.irem, 1) := by decide +kernel
theorem dX0_keep_53 : decode cX0_keep 53 = .ok (.putfield 22, 3) := by decide +kernel
theorem dX0_keep_56 : decode cX0_keep 56 = .ok (.return_, 1) := by decide +kernel
theorem dX0_takeBack_0 : decode cX0_takeBack 0 = .ok (.aload_n 0, 1) := by decide +kernel
theorem dX0_takeBack_1 : decode cX0_takeBack 1 = .ok (.getfield 18, 3) := by decide +kernel
theorem dX0_takeBack_4 : decode cX0_takeBack 4 = .ok (.ifCond .le 34, 3) := by decide +kernel
theorem dX0_takeBack_7 : decode cX0_takeBack 7 = .ok (.aload_n 0, 1) := by decide +kernel
theorem dX0_takeBack_8 : decode cX0_takeBack 8 = .ok (.dup, 1) := by decide +kernel
theorem dX0_takeBack_9 : decode cX0_takeBack 9 = .ok (.getfield 18, 3) := by decide +kernel
theorem dX0_takeBack_12 : decode cX0_takeBack 12 = .ok (.iconst 1, 1) := by decide +kernel
theorem dX0_takeBack_13 : decode cX0_takeBack 13 = .ok (.isub, 1) := by decide +kernel
theorem dX0_takeBack_14 : decode cX0_takeBack 14 = .ok (.putfield 18, 3) := by decide +kernel
theorem dX0_takeBack_17 : decode cX0_takeBack 17 = .ok (.aload_n 1, 1) := by decide +kernel
theorem dX0_takeBack_18 : decode cX0_takeBack 18 = .ok (.aload_n 0, 1) := by decide +kernel
theorem dX0_takeBack_19 : decode cX0_takeBack 19 = .ok (.getfield 11, 3) := by decide +kernel
theorem dX0_takeBack_22 : decode cX0_takeBack 22 = .ok (.aload_n 0, 1) := by decide +kernel
theorem dX0_takeBack_23 : decode cX0_takeBack 23 = .ok (.getfield 22, 3) := by decide +kernel
theorem dX0_takeBack_26 : decode cX0_takeBack 26 = .ok (.aload_n 0, 1) := by decide +kernel
theorem dX0_takeBack_27 : decode cX0_takeBack 27 = .ok (.getfield 18, 3) := by decide +kernel
theorem dX0_takeBack_30 : decode cX0_takeBack 30 = .ok (.iadd, 1) := by decide +kernel
theorem dX0_takeBack_31 : decode cX0_takeBack 31 = .ok (.bipush 24, 2) := by decide +kernel
theorem dX0_takeBack_33 : decode cX0_takeBack 33 = .ok (.irem, 1) := by decide +kernel
theorem dX0_takeBack_34 : decode cX0_takeBack 34 = .ok (.aaload, 1) := by decide +kernel
theorem dX0_takeBack_35 : decode cX0_takeBack 35 = .ok (.invokevirtual 25, 3) := by decide +kernel
theorem dX0_takeBack_38 : decode cX0_takeBack 38 = .ok (.return_, 1) := by decide +kernel
theorem dX1_init_0 : decode cX1_init 0 = .ok (.aload_n 0, 1) := by decide +kernel
theorem dX1_init_1 : decode cX1_init 1 = .ok (.invokespecial 3, 3) := by decide +kernel
theorem dX1_init_4 : decode cX1_init 4 = .ok (.aload_n 0, 1) := by decide +kernel
theorem dX1_init_5 : decode cX1_init 5 = .ok (.bipush 16, 2) := by decide +kernel
theorem dX1_init_7 : decode cX1_init 7 = .ok (.newarray .int, 2) := by decide +kernel
theorem dX1_init_9 : decode cX1_init 9 = .ok (.putfield 11, 3) := by decide +kernel
theorem dX1_init_12 : decode cX1_init 12 = .ok (.return_, 1) := by decide +kernel
theorem dX1_turnTo_0 : decode cX1_turnTo 0 = .ok (.aload_n 0, 1) := by decide +kernel
theorem dX1_turnTo_1 : decode cX1_turnTo 1 = .ok (.iconst 0, 1) := by decide +kernel
theorem dX1_turnTo_2 : decode cX1_turnTo 2 = .ok (.putfield 15, 3) := by decide +kernel
theorem dX1_turnTo_5 : decode cX1_turnTo 5 = .ok (.aload_n 0, 1) := by decide +kernel
theorem dX1_turnTo_6 : decode cX1_turnTo 6 = .ok (.iload_n 2, 1) := by decide +kernel
theorem dX1_turnTo_7 : decode cX1_turnTo 7 = .ok (.putfield 19, 3) := by decide +kernel
theorem dX1_turnTo_10 : decode cX1_turnTo 10 = .ok (.aload_n 0, 1) := by decide +kernel
theorem dX1_turnTo_11 : decode cX1_turnTo 11 = .ok (.aload_n 1, 1) := by decide +kernel
theorem dX1_turnTo_12 : decode cX1_turnTo 12 = .ok (.getfield 22, 3) := by decide +kernel
theorem dX1_turnTo_15 : decode cX1_turnTo 15 = .ok (.iload_n 2, 1) := by decide +kernel
theorem dX1_turnTo_16 : decode cX1_turnTo 16 = .ok (.iaload, 1) := by decide +kernel
theorem dX1_turnTo_17 : decode cX1_turnTo 17 = .ok (.putfield 27, 3) := by decide +kernel
theorem dX1_turnTo_20 : decode cX1_turnTo 20 = .ok (.aload_n 0, 1) := by decide +kernel
theorem dX1_turnTo_21 : decode cX1_turnTo 21 = .ok (.aload_n 1, 1) := by decide +kernel
theorem dX1_turnTo_22 : decode cX1_turnTo 22 = .ok (.getfield 29, 3) := by decide +kernel
theorem dX1_turnTo_25 : decode cX1_turnTo 25 = .ok (.iload_n 2, 1) := by decide +kernel
theorem dX1_turnTo_26 : decode cX1_turnTo 26 = .ok (.iaload, 1) := by decide +kernel
theorem dX1_turnTo_27 : decode cX1_turnTo 27 = .ok (.putfield 32, 3) := by decide +kernel
theorem dX1_turnTo_30 : decode cX1_turnTo 30 = .ok (.aload_n 0, 1) := by decide +kernel
theorem dX1_turnTo_31 : decode cX1_turnTo 31 = .ok (.aload_n 1, 1) := by decide +kernel
theorem dX1_turnTo_32 : decode cX1_turnTo 32 = .ok (.getfield 34, 3) := by decide +kernel
theorem dX1_turnTo_35 : decode cX1_turnTo 35 = .ok (.iload_n 2, 1) := by decide +kernel
theorem dX1_turnTo_36 : decode cX1_turnTo 36 = .ok (.iaload, 1) := by decide +kernel
theorem dX1_turnTo_37 : decode cX1_turnTo 37 = .ok (.putfield 37, 3) := by decide +kernel
theorem dX1_turnTo_40 : decode cX1_turnTo 40 = .ok (.return_, 1) := by decide +kernel
theorem dX1_leave_0 : decode cX1_leave 0 = .ok (.aload_n 0, 1) := by decide +kernel
theorem dX1_leave_1 : decode cX1_leave 1 = .ok (.getfield 15, 3) := by decide +kernel
theorem dX1_leave_4 : decode cX1_leave 4 = .ok (.bipush 16, 2) := by decide +kernel
theorem dX1_leave_6 : decode cX1_leave 6 = .ok (.if_icmp .ge 23, 3) := by decide +kernel
theorem dX1_leave_9 : decode cX1_leave 9 = .ok (.aload_n 0, 1) := by decide +kernel
theorem dX1_leave_10 : decode cX1_leave 10 = .ok (.getfield 11, 3) := by decide +kernel
theorem dX1_leave_13 : decode cX1_leave 13 = .ok (.aload_n 0, 1) := by decide +kernel
theorem dX1_leave_14 : decode cX1_leave 14 = .ok (.getfield 15, 3) := by decide +kernel
theorem dX1_leave_17 : decode cX1_leave 17 = .ok (.iload_n 1, 1) := by decide +kernel
theorem dX1_leave_18 : decode cX1_leave 18 = .ok (.iastore, 1) := by decide +kernel
theorem dX1_leave_19 : decode cX1_leave 19 = .ok (.aload_n 0, 1) := by decide +kernel
theorem dX1_leave_20 : decode cX1_leave 20 = .ok (.dup, 1) := by decide +kernel
theorem dX1_leave_21 : decode cX1_leave 21 = .ok (.getfield 15, 3) := by decide +kernel
theorem dX1_leave_24 : decode cX1_leave 24 = .ok (.iconst 1, 1) := by decide +kernel
theorem dX1_leave_25 : decode cX1_leave 25 = .ok (.iadd, 1) := by decide +kernel
theorem dX1_leave_26 : decode cX1_leave 26 = .ok (.putfield 15, 3) := by decide +kernel
theorem dX1_leave_29 : decode cX1_leave 29 = .ok (.return_, 1) := by decide +kernel
theorem dX1_size_0 : decode cX1_size 0 = .ok (.aload_n 0, 1) := by decide +kernel
theorem dX1_size_1 : decode cX1_size 1 = .ok (.getfield 27, 3) := by decide +kernel
theorem dX1_size_4 : decode cX1_size 4 = .ok (.iconst 4, 1) := by decide +kernel
theorem dX1_size_5 : decode cX1_size 5 = .ok (.if_icmp .eq 11, 3) := by decide +kernel
theorem dX1_size_8 : decode cX1_size 8 = .ok (.aload_n 0, 1) := by decide +kernel
theorem dX1_size_9 : decode cX1_size 9 = .ok (.getfield 27, 3) := by decide +kernel
theorem dX1_size_12 : decode cX1_size 12 = .ok (.iconst 5, 1) := by decide +kernel
theorem dX1_size_13 : decode cX1_size 13 = .ok (.if_icmp .ne 8, 3) := by decide +kernel
theorem dX1_size_16 : decode cX1_size 16 = .ok (.aload_n 0, 1) := by decide +kernel
theorem dX1_size_17 : decode cX1_size 17 = .ok (.invokevirtual 39, 3) := by decide +kernel
theorem dX1_size_20 : decode cX1_size 20 = .ok (.ireturn, 1) := by decide +kernel
theorem dX1_size_21 : decode cX1_size 21 = .ok (.aload_n 0, 1) := by decide +kernel
theorem dX1_size_22 : decode cX1_size 22 = .ok (.getfield 27, 3) := by decide +kernel
theorem dX1_size_25 : decode cX1_size 25 = .ok (.iconst 2, 1) := by decide +kernel
theorem dX1_size_26 : decode cX1_size 26 = .ok (.if_icmp .ne 15, 3) := by decide +kernel
theorem dX1_size_29 : decode cX1_size 29 = .ok (.aload_n 0, 1) := by decide +kernel
theorem dX1_size_30 : decode cX1_size 30 = .ok (.bipush 12, 2) := by decide +kernel
theorem dX1_size_32 : decode cX1_size 32 = .ok (.invokevirtual 43, 3) := by decide +kernel
theorem dX1_size_35 : decode cX1_size 35 = .ok (.aload_n 0, 1) := by decide +kernel
theorem dX1_size_36 : decode cX1_size 36 = .ok (.invokevirtual 47, 3) := by decide +kernel
theorem dX1_size_39 : decode cX1_size 39 = .ok (.ineg, 1) := by decide +kernel
theorem dX1_size_40 : decode cX1_size 40 = .ok (.ireturn, 1) := by decide +kernel
theorem dX1_size_41 : decode cX1_size 41 = .ok (.aload_n 0, 1) := by decide +kernel
theorem dX1_size_42 : decode cX1_size 42 = .ok (.invokevirtual 47, 3) := by decide +kernel
theorem dX1_size_45 : decode cX1_size 45 = .ok (.ireturn, 1) := by decide +kernel
theorem dX1_mark_0 : decode cX1_mark 0 = .ok (.aload_n 0, 1) := by decide +kernel
theorem dX1_mark_1 : decode cX1_mark 1 = .ok (.getfield 27, 3) := by decide +kernel
theorem dX1_mark_4 : decode cX1_mark 4 = .ok (.iconst 4, 1) := by decide +kernel
theorem dX1_mark_5 : decode cX1_mark 5 = .ok (.if_icmp .eq 11, 3) := by decide +kernel
theorem dX1_mark_8 : decode cX1_mark 8 = .ok (.aload_n 0, 1) := by decide +kernel
theorem dX1_mark_9 : decode cX1_mark 9 = .ok (.getfield 27, 3) := by decide +kernel
theorem dX1_mark_12 : decode cX1_mark 12 = .ok (.iconst 5, 1) := by decide +kernel
theorem dX1_mark_13 : decode cX1_mark 13 = .ok (.if_icmp .ne 10, 3) := by decide +kernel
theorem dX1_mark_16 : decode cX1_mark 16 = .ok (.aload_n 0, 1) := by decide +kernel
theorem dX1_mark_17 : decode cX1_mark 17 = .ok (.invokevirtual 50, 3) := by decide +kernel
theorem dX1_mark_20 : decode cX1_mark 20 = .ok (.goto 7, 3) := by decide +kernel
theorem dX1_mark_23 : decode cX1_mark 23 = .ok (.aload_n 0, 1) := by decide +kernel
theorem dX1_mark_24 : decode cX1_mark 24 = .ok (.invokevirtual 53, 3) := by decide +kernel
theorem dX1_mark_27 : decode cX1_mark 27 = .ok (.ireturn, 1) := by decide +kernel
theorem dX1_sizeInParish_0 : decode cX1_sizeInParish 0 = .ok (.aload_n 0, 1) := by decide +kernel
theorem dX1_sizeInParish_1 : decode cX1_sizeInParish 1 = .ok (.getfield 27, 3) := by decide +kernel
theorem dX1_sizeInParish_4 : decode cX1_sizeInParish 4 = .ok (.iconst 5, 1) := by decide +kernel
theorem dX1_sizeInParish_5 : decode cX1_sizeInParish 5 = .ok (.if_icmp .ne 16, 3) := by decide +kernel
theorem dX1_sizeInParish_8 : decode cX1_sizeInParish 8 = .ok (.aload_n 0, 1) := by decide +kernel
theorem dX1_sizeInParish_9 : decode cX1_sizeInParish 9 = .ok (.bipush 14, 2) := by decide +kernel
theorem dX1_sizeInParish_11 : decode cX1_sizeInParish 11 = .ok (.invokevirtual 43, 3) := by decide +kernel
theorem dX1_sizeInParish_14 : decode cX1_sizeInParish 14 = .ok (.iconst 2, 1) := by decide +kernel
theorem dX1_sizeInParish_15 : decode cX1_sizeInParish 15 = .ok (.aload_n 0, 1) := by decide +kernel
theorem dX1_sizeInParish_16 : decode cX1_sizeInParish 16 = .ok (.invokevirtual 56, 3) := by decide +kernel
theorem dX1_sizeInParish_19 : decode cX1_sizeInParish 19 = .ok (.imul, 1) := by decide +kernel
theorem dX1_sizeInParish_20 : decode cX1_sizeInParish 20 = .ok (.ireturn, 1) := by decide +kernel
theorem dX1_sizeInParish_21 : decode cX1_sizeInParish 21 = .ok (.aload_n 0, 1) := by decide +kernel
theorem dX1_sizeInParish_22 : decode cX1_sizeInParish 22 = .ok (.invokevirtual 56, 3) := by decide +kernel
theorem dX1_sizeInParish_25 : decode cX1_sizeInParish 25 = .ok (.ireturn, 1) := by decide +kernel
theorem dX1_markInWood_0 : decode cX1_markInWood 0 = .ok (.aload_n 0, 1) := by decide +kernel
theorem dX1_markInWood_1 : decode cX1_markInWood 1 = .ok (.getfield 27, 3) := by decide +kernel
theorem dX1_markInWood_4 : decode cX1_markInWood 4 = .ok (.iconst 2, 1) := by decide +kernel
theorem dX1_markInWood_5 : decode cX1_markInWood 5 = .ok (.if_icmp .ne 16, 3) := by decide +kernel
theorem dX1_markInWood_8 : decode cX1_markInWood 8 = .ok (.aload_n 0, 1) := by decide +kernel
theorem dX1_markInWood_9 : decode cX1_markInWood 9 = .ok (.bipush 24, 2) := by decide +kernel
theorem dX1_markInWood_11 : decode cX1_markInWood 11 = .ok (.invokevirtual 43, 3) := by decide +kernel
theorem dX1_markInWood_14 : decode cX1_markInWood 14 = .ok (.iconst 2, 1) := by decide +kernel
theorem dX1_markInWood_15 : decode cX1_markInWood 15 = .ok (.aload_n 0, 1) := by decide +kernel
theorem dX1_markInWood_16 : decode cX1_markInWood 16 = .ok (.invokevirtual 59, 3) := by decide +kernel
theorem dX1_markInWood_19 : decode cX1_markInWood 19 = .ok (.imul, 1) := by decide +kernel
theorem dX1_markInWood_20 : decode cX1_markInWood 20 = .ok (.ireturn, 1) := by decide +kernel
theorem dX1_markInWood_21 : decode cX1_markInWood 21 = .ok (.aload_n 0, 1) := by decide +kernel
theorem dX1_markInWood_22 : decode cX1_markInWood 22 = .ok (.getfield 27, 3) := by decide +kernel
theorem dX1_markInWood_25 : decode cX1_markInWood 25 = .ok (.iconst 3, 1) := by decide +kernel
theorem dX1_markInWood_26 : decode cX1_markInWood 26 = .ok (.if_icmp .ne 18, 3) := by decide +kernel
theorem dX1_markInWood_29 : decode cX1_markInWood 29 = .ok (.aload_n 0, 1) := by decide +kernel
theorem dX1_markInWood_30 : decode cX1_markInWood 30 = .ok (.bipush 22, 2) := by decide +kernel
theorem dX1_markInWood_32 : decode cX1_markInWood 32 = .ok (.invokevirtual 43, 3) := by decide +kernel
theorem dX1_markInWood_35 : decode cX1_markInWood 35 = .ok (.aload_n 0, 1) := by decide +kernel
theorem dX1_markInWood_36 : decode cX1_markInWood 36 = .ok (.invokevirtual 59, 3) := by decide +kernel
theorem dX1_markInWood_39 : decode cX1_markInWood 39 = .ok (.sipush 1000, 3) := by decide +kernel
theorem dX1_markInWood_42 : decode cX1_markInWood 42 = .ok (.isub, 1) := by decide +kernel
theorem dX1_markInWood_43 : decode cX1_markInWood 43 = .ok (.ireturn, 1) := by decide +kernel
theorem dX1_markInWood_44 : decode cX1_markInWood 44 = .ok (.aload_n 0, 1) := by decide +kernel
theorem dX1_markInWood_45 : decode cX1_markInWood 45 = .ok (.invokevirtual 59, 3) := by decide +kernel
theorem dX1_markInWood_48 : decode cX1_markInWood 48 = .ok (.ireturn, 1) := by decide +kernel
theorem dX1_lentSize_0 : decode cX1_lentSize 0 = .ok (.aload_n 0, 1) := by decide +kernel
theorem dX1_lentSize_1 : decode cX1_lentSize 1 = .ok (.bipush 10, 2) := by decide +kernel
theorem dX1_lentSize_3 : decode cX1_lentSize 3 = .ok (.invokevirtual 43, 3) := by decide +kernel
theorem dX1_lentSize_6 : decode cX1_lentSize 6 = .ok (.aload_n 0, 1) := by decide +kernel
theorem dX1_lentSize_7 : decode cX1_lentSize 7 = .ok (.getfield 32, 3) := by decide +kernel
theorem dX1_lentSize_10 : decode cX1_lentSize 10 = .ok (.ireturn, 1) := by decide +kernel
theorem dX1_woodSize_0 : decode cX1_woodSize 0 = .ok (.aload_n 0, 1) := by decide +kernel
theorem dX1_woodSize_1 : decode cX1_woodSize 1 = .ok (.bipush 11, 2) := by decide +kernel
theorem dX1_woodSize_3 : decode cX1_woodSize 3 = .ok (.invokevirtual 43, 3) := by decide +kernel
theorem dX1_woodSize_6 : decode cX1_woodSize 6 = .ok (.aload_n 0, 1) := by decide +kernel
theorem dX1_woodSize_7 : decode cX1_woodSize 7 = .ok (.invokevirtual 62, 3) := by decide +kernel
theorem dX1_woodSize_10 : decode cX1_woodSize 10 = .ok (.istore_n 1, 1) := by decide +kernel
theorem dX1_woodSize_11 : decode cX1_woodSize 11 = .ok (.iload_n 1, 1) := by decide +kernel
theorem dX1_woodSize_12 : decode cX1_woodSize 12 = .ok (.aload_n 0, 1) := by decide +kernel
theorem dX1_woodSize_13 : decode cX1_woodSize 13 = .ok (.invokevirtual 53, 3) := by decide +kernel
theorem dX1_woodSize_16 : decode cX1_woodSize 16 = .ok (.iadd, 1) := by decide +kernel
theorem dX1_woodSize_17 : decode cX1_woodSize 17 = .ok (.ireturn, 1) := by decide +kernel
theorem dX1_parishSize_0 : decode cX1_parishSize 0 = .ok (.aload_n 0, 1) := by decide +kernel
theorem dX1_parishSize_1 : decode cX1_parishSize 1 = .ok (.bipush 13, 2) := by decide +kernel
theorem dX1_parishSize_3 : decode cX1_parishSize 3 = .ok (.invokevirtual 43, 3) := by decide +kernel
theorem dX1_parishSize_6 : decode cX1_parishSize 6 = .ok (.aload_n 0, 1) := by decide +kernel
theorem dX1_parishSize_7 : decode cX1_parishSize 7 = .ok (.invokevirtual 62, 3) := by decide +kernel
theorem dX1_parishSize_10 : decode cX1_parishSize 10 = .ok (.bipush 100, 2) := by decide +kernel
theorem dX1_parishSize_12 : decode cX1_parishSize 12 = .ok (.isub, 1) := by decide +kernel
theorem dX1_parishSize_13 : decode cX1_parishSize 13 = .ok (.ireturn, 1) := by decide +kernel
theorem dX1_lentMark_0 : decode cX1_lentMark 0 = .ok (.aload_n 0, 1) := by decide +kernel
theorem dX1_lentMark_1 : decode cX1_lentMark 1 = .ok (.bipush 20, 2) := by decide +kernel
theorem dX1_lentMark_3 : decode cX1_lentMark 3 = .ok (.invokevirtual 43, 3) := by decide +kernel
theorem dX1_lentMark_6 : decode cX1_lentMark 6 = .ok (.aload_n 0, 1) := by decide +kernel
theorem dX1_lentMark_7 : decode cX1_lentMark 7 = .ok (.getfield 19, 3) := by decide +kernel
theorem dX1_lentMark_10 : decode cX1_lentMark 10 = .ok (.ireturn, 1) := by decide +kernel
theorem dX1_woodMark_0 : decode cX1_woodMark 0 = .ok (.aload_n 0, 1) := by decide +kernel
theorem dX1_woodMark_1 : decode cX1_woodMark 1 = .ok (.bipush 21, 2) := by decide +kernel
theorem dX1_woodMark_3 : decode cX1_woodMark 3 = .ok (.invokevirtual 43, 3) := by decide +kernel
theorem dX1_woodMark_6 : decode cX1_woodMark 6 = .ok (.aload_n 0, 1) := by decide +kernel
theorem dX1_woodMark_7 : decode cX1_woodMark 7 = .ok (.invokevirtual 65, 3) := by decide +kernel
theorem dX1_woodMark_10 : decode cX1_woodMark 10 = .ok (.aload_n 0, 1) := by decide +kernel
theorem dX1_woodMark_11 : decode cX1_woodMark 11 = .ok (.getfield 37, 3) := by decide +kernel
theorem dX1_woodMark_14 : decode cX1_woodMark 14 = .ok (.iadd, 1) := by decide +kernel
theorem dX1_woodMark_15 : decode cX1_woodMark 15 = .ok (.ireturn, 1) := by decide +kernel
theorem dX1_parishMark_0 : decode cX1_parishMark 0 = .ok (.aload_n 0, 1) := by decide +kernel
theorem dX1_parishMark_1 : decode cX1_parishMark 1 = .ok (.bipush 23, 2) := by decide +kernel
theorem dX1_parishMark_3 : decode cX1_parishMark 3 = .ok (.invokevirtual 43, 3) := by decide +kernel
theorem dX1_parishMark_6 : decode cX1_parishMark 6 = .ok (.aload_n 0, 1) := by decide +kernel
theorem dX1_parishMark_7 : decode cX1_parishMark 7 = .ok (.invokevirtual 65, 3) := by decide +kernel
theorem dX1_parishMark_10 : decode cX1_parishMark 10 = .ok (.istore_n 1, 1) := by decide +kernel
theorem dX1_parishMark_11 : decode cX1_parishMark 11 = .ok (.iload_n 1, 1) := by decide +kernel
theorem dX1_parishMark_12 : decode cX1_parishMark 12 = .ok (.aload_n 0, 1) := by decide +kernel
theorem dX1_parishMark_13 : decode cX1_parishMark 13 = .ok (.invokevirtual 39, 3) := by decide +kernel
theorem dX1_parishMark_16 : decode cX1_parishMark 16 = .ok (.isub, 1) := by decide +kernel
theorem dX1_parishMark_17 : decode cX1_parishMark 17 = .ok (.ireturn, 1) := by decide +kernel
theorem dX2_init_0 : decode cX2_init 0 = .ok (.aload_n 0, 1) := by decide +kernel
theorem dX2_init_1 : decode cX2_init 1 = .ok (.invokespecial 3, 3) := by decide +kernel
theorem dX2_init_4 : decode cX2_init 4 = .ok (.aload_n 0, 1) := by decide +kernel
theorem dX2_init_5 : decode cX2_init 5 = .ok (.new 9, 3) := by decide +kernel
theorem dX2_init_8 : decode cX2_init 8 = .ok (.dup, 1) := by decide +kernel
theorem dX2_init_9 : decode cX2_init 9 = .ok (.invokespecial 11, 3) := by decide +kernel
theorem dX2_init_12 : decode cX2_init 12 = .ok (.putfield 12, 3) := by decide +kernel
theorem dX2_init_15 : decode cX2_init 15 = .ok (.aload_n 0, 1) := by decide +kernel
theorem dX2_init_16 : decode cX2_init 16 = .ok (.new 9, 3) := by decide +kernel
theorem dX2_init_19 : decode cX2_init 19 = .ok (.dup, 1) := by decide +kernel
theorem dX2_init_20 : decode cX2_init 20 = .ok (.invokespecial 11, 3) := by decide +kernel
theorem dX2_init_23 : decode cX2_init 23 = .ok (.putfield 18, 3) := by decide +kernel
theorem dX2_init_26 : decode cX2_init 26 = .ok (.aload_n 0, 1) := by decide +kernel
theorem dX2_init_27 : decode cX2_init 27 = .ok (.bipush 12, 2) := by decide +kernel
theorem dX2_init_29 : decode cX2_init 29 = .ok (.newarray .int, 2) := by decide +kernel
theorem dX2_init_31 : decode cX2_init 31 = .ok (.putfield 21, 3) := by decide +kernel
theorem dX2_init_34 : decode cX2_init 34 = .ok (.return_, 1) := by decide +kernel
theorem dX2_after_0 : decode cX2_after 0 = .ok (.aload_n 0, 1) := by decide +kernel
theorem dX2_after_1 : decode cX2_after 1 = .ok (.getfield 12, 3) := by decide +kernel
theorem dX2_after_4 : decode cX2_after 4 = .ok (.aload_n 1, 1) := by decide +kernel
theorem dX2_after_5 : decode cX2_after 5 = .ok (.invokevirtual 25, 3) := by decide +kernel
theorem dX2_after_8 : decode cX2_after 8 = .ok (.aload_n 0, 1) := by decide +kernel
theorem dX2_after_9 : decode cX2_after 9 = .ok (.getfield 12, 3) := by decide +kernel
theorem dX2_after_12 : decode cX2_after 12 = .ok (.iload_n 2, 1) := by decide +kernel
theorem dX2_after_13 : decode cX2_after 13 = .ok (.invokevirtual 29, 3) := by decide +kernel
theorem dX2_after_16 : decode cX2_after 16 = .ok (.aload_n 0, 1) := by decide +kernel
theorem dX2_after_17 : decode cX2_after 17 = .ok (.getfield 12, 3) := by decide +kernel
theorem dX2_after_20 : decode cX2_after 20 = .ok (.areturn, 1) := by decide +kernel
theorem dX2_hoursUntil_0 : decode cX2_hoursUntil 0 = .ok (.aload_n 0, 1) := by decide +kernel
theorem dX2_hoursUntil_1 : decode cX2_hoursUntil 1 = .ok (.getfield 12, 3) := by decide +kernel
theorem dX2_hoursUntil_4 : decode cX2_hoursUntil 4 = .ok (.aload_n 1, 1) := by decide +kernel
theorem dX2_hoursUntil_5 : decode cX2_hoursUntil 5 = .ok (.invokevirtual 25, 3) := by decide +kernel
theorem dX2_hoursUntil_8 : decode cX2_hoursUntil 8 = .ok (.iconst 0, 1) := by decide +kernel
theorem dX2_hoursUntil_9 : decode cX2_hoursUntil 9 = .ok (.istore 4, 2) := by decide +kernel
theorem dX2_hoursUntil_11 : decode cX2_hoursUntil 11 = .ok (.iload 4, 2) := by decide +kernel
theorem dX2_hoursUntil_13 : decode cX2_hoursUntil 13 = .ok (.bipush 60, 2) := by decide +kernel
theorem dX2_hoursUntil_15 : decode cX2_hoursUntil 15 = .ok (.if_icmp .gt 49, 3) := by decide +kernel
theorem dX2_hoursUntil_18 : decode cX2_hoursUntil 18 = .ok (.iload_n 3, 1) := by decide +kernel
theorem dX2_hoursUntil_19 : decode cX2_hoursUntil 19 = .ok (.ifCond .ne 18, 3) := by decide +kernel
theorem dX2_hoursUntil_22 : decode cX2_hoursUntil 22 = .ok (.aload_n 0, 1) := by decide +kernel
theorem dX2_hoursUntil_23 : decode cX2_hoursUntil 23 = .ok (.getfield 12, 3) := by decide +kernel
theorem dX2_hoursUntil_26 : decode cX2_hoursUntil 26 = .ok (.getfield 33, 3) := by decide +kernel
theorem dX2_hoursUntil_29 : decode cX2_hoursUntil 29 = .ok (.iload_n 2, 1) := by decide +kernel
theorem dX2_hoursUntil_30 : decode cX2_hoursUntil 30 = .ok (.iaload, 1) := by decide +kernel
theorem dX2_hoursUntil_31 : decode cX2_hoursUntil 31 = .ok (.ifCond .ne 20, 3) := by decide +kernel
theorem dX2_hoursUntil_34 : decode cX2_hoursUntil 34 = .ok (.goto 14, 3) := by decide +kernel
theorem dX2_hoursUntil_37 : decode cX2_hoursUntil 37 = .ok (.aload_n 0, 1) := by decide +kernel
theorem dX2_hoursUntil_38 : decode cX2_hoursUntil 38 = .ok (.getfield 12, 3) := by decide +kernel
theorem dX2_hoursUntil_41 : decode cX2_hoursUntil 41 = .ok (.iload_n 2, 1) := by decide +kernel
theorem dX2_hoursUntil_42 : decode cX2_hoursUntil 42 = .ok (.invokevirtual 36, 3) := by decide +kernel
theorem dX2_hoursUntil_45 : decode cX2_hoursUntil 45 = .ok (.ifCond .eq 6, 3) := by decide +kernel
theorem dX2_hoursUntil_48 : decode cX2_hoursUntil 48 = .ok (.iload 4, 2) := by decide +kernel
theorem dX2_hoursUntil_50 : decode cX2_hoursUntil 50 = .ok (.ireturn, 1) := by decide +kernel
theorem dX2_hoursUntil_51 : decode cX2_hoursUntil 51 = .ok (.aload_n 0, 1) := by decide +kernel
theorem dX2_hoursUntil_52 : decode cX2_hoursUntil 52 = .ok (.getfield 12, 3) := by decide +kernel
theorem dX2_hoursUntil_55 : decode cX2_hoursUntil 55 = .ok (.invokevirtual 40, 3) := by decide +kernel
theorem dX2_hoursUntil_58 : decode cX2_hoursUntil 58 = .ok (.iinc 4 1, 3) := by decide +kernel
theorem dX2_hoursUntil_61 : decode cX2_hoursUntil 61 = .ok (.goto (-50), 3) := by decide +kernel
theorem dX2_hoursUntil_64 : decode cX2_hoursUntil 64 = .ok (.ldc 43, 2) := by decide +kernel
theorem dX2_hoursUntil_66 : decode cX2_hoursUntil 66 = .ok (.ireturn, 1) := by decide +kernel
theorem dX2_firstToFall_0 : decode cX2_firstToFall 0 = .ok (.aload_n 0, 1) := by decide +kernel
theorem dX2_firstToFall_1 : decode cX2_firstToFall 1 = .ok (.getfield 12, 3) := by decide +kernel
theorem dX2_firstToFall_4 : decode cX2_firstToFall 4 = .ok (.aload_n 1, 1) := by decide +kernel
theorem dX2_firstToFall_5 : decode cX2_firstToFall 5 = .ok (.invokevirtual 25, 3) := by decide +kernel
theorem dX2_firstToFall_8 : decode cX2_firstToFall 8 = .ok (.iconst 1, 1) := by decide +kernel
theorem dX2_firstToFall_9 : decode cX2_firstToFall 9 = .ok (.istore_n 3, 1) := by decide +kernel
theorem dX2_firstToFall_10 : decode cX2_firstToFall 10 = .ok (.iload_n 3, 1) := by decide +kernel
theorem dX2_firstToFall_11 : decode cX2_firstToFall 11 = .ok (.bipush 60, 2) := by decide +kernel
theorem dX2_firstToFall_13 : decode cX2_firstToFall 13 = .ok (.if_icmp .gt 68, 3) := by decide +kernel
theorem dX2_firstToFall_16 : decode cX2_firstToFall 16 = .ok (.aload_n 0, 1) := by decide +kernel
theorem dX2_firstToFall_17 : decode cX2_firstToFall 17 = .ok (.getfield 12, 3) := by decide +kernel
theorem dX2_firstToFall_20 : decode cX2_firstToFall 20 = .ok (.invokevirtual 40, 3) := by decide +kernel
theorem dX2_firstToFall_23 : decode cX2_firstToFall 23 = .ok (.iconst 0, 1) := by decide +kernel
theorem dX2_firstToFall_24 : decode cX2_firstToFall 24 = .ok (.istore 4, 2) := by decide +kernel
theorem dX2_firstToFall_26 : decode cX2_firstToFall 26 = .ok (.iload 4, 2) := by decide +kernel
theorem dX2_firstToFall_28 : decode cX2_firstToFall 28 = .ok (.aload_n 1, 1) := by decide +kernel
theorem dX2_firstToFall_29 : decode cX2_firstToFall 29 = .ok (.getfield 44, 3) := by decide +kernel
theorem dX2_firstToFall_32 : decode cX2_firstToFall 32 = .ok (.if_icmp .ge 43, 3) := by decide +kernel
theorem dX2_firstToFall_35 : decode cX2_firstToFall 35 = .ok (.aload_n 1, 1) := by decide +kernel
theorem dX2_firstToFall_36 : decode cX2_firstToFall 36 = .ok (.getfield 33, 3) := by decide +kernel
theorem dX2_firstToFall_39 : decode cX2_firstToFall 39 = .ok (.iload 4, 2) := by decide +kernel
theorem dX2_firstToFall_41 : decode cX2_firstToFall 41 = .ok (.iaload, 1) := by decide +kernel
theorem dX2_firstToFall_42 : decode cX2_firstToFall 42 = .ok (.ifCond .le 27, 3) := by decide +kernel
theorem dX2_firstToFall_45 : decode cX2_firstToFall 45 = .ok (.aload_n 0, 1) := by decide +kernel
theorem dX2_firstToFall_46 : decode cX2_firstToFall 46 = .ok (.getfield 12, 3) := by decide +kernel
theorem dX2_firstToFall_49 : decode cX2_firstToFall 49 = .ok (.getfield 33, 3) := by decide +kernel
theorem dX2_firstToFall_52 : decode cX2_firstToFall 52 = .ok (.iload 4, 2) := by decide +kernel
theorem dX2_firstToFall_54 : decode cX2_firstToFall 54 = .ok (.iaload, 1) := by decide +kernel
theorem dX2_firstToFall_55 : decode cX2_firstToFall 55 = .ok (.ifCond .ne 14, 3) := by decide +kernel
theorem dX2_firstToFall_58 : decode cX2_firstToFall 58 = .ok (.iload_n 2, 1) := by decide +kernel
theorem dX2_firstToFall_59 : decode cX2_firstToFall 59 = .ok (.ifCond .ne 8, 3) := by decide +kernel
theorem dX2_firstToFall_62 : decode cX2_firstToFall 62 = .ok (.iload 4, 2) := by decide +kernel
theorem dX2_firstToFall_64 : decode cX2_firstToFall 64 = .ok (.goto 4, 3) := by decide +kernel
theorem dX2_firstToFall_67 : decode cX2_firstToFall 67 = .ok (.iload_n 3, 1) := by decide +kernel
theorem dX2_firstToFall_68 : decode cX2_firstToFall 68 = .ok (.ireturn, 1) := by decide +kernel
theorem dX2_firstToFall_69 : decode cX2_firstToFall 69 = .ok (.iinc 4 1, 3) := by decide +kernel
theorem dX2_firstToFall_72 : decode cX2_firstToFall 72 = .ok (.goto (-46), 3) := by decide +kernel
theorem dX2_firstToFall_75 : decode cX2_firstToFall 75 = .ok (.iinc 3 1, 3) := by decide +kernel
theorem dX2_firstToFall_78 : decode cX2_firstToFall 78 = .ok (.goto (-68), 3) := by decide +kernel
theorem dX2_firstToFall_81 : decode cX2_firstToFall 81 = .ok (.ldc 43, 2) := by decide +kernel
theorem dX2_firstToFall_83 : decode cX2_firstToFall 83 = .ok (.ireturn, 1) := by decide +kernel
theorem dX2_standingAfter_0 : decode cX2_standingAfter 0 = .ok (.aload_n 0, 1) := by decide +kernel
theorem dX2_standingAfter_1 : decode cX2_standingAfter 1 = .ok (.getfield 12, 3) := by decide +kernel
theorem dX2_standingAfter_4 : decode cX2_standingAfter 4 = .ok (.iload_n 1, 1) := by decide +kernel
theorem dX2_standingAfter_5 : decode cX2_standingAfter 5 = .ok (.invokevirtual 29, 3) := by decide +kernel
theorem dX2_standingAfter_8 : decode cX2_standingAfter 8 = .ok (.aload_n 0, 1) := by decide +kernel
theorem dX2_standingAfter_9 : decode cX2_standingAfter 9 = .ok (.getfield 12, 3) := by decide +kernel
theorem dX2_standingAfter_12 : decode cX2_standingAfter 12 = .ok (.invokevirtual 48, 3) := by decide +kernel
theorem dX2_standingAfter_15 : decode cX2_standingAfter 15 = .ok (.invokestatic 52, 3) := by decide +kernel
theorem dX2_standingAfter_18 : decode cX2_standingAfter 18 = .ok (.ireturn, 1) := by decide +kernel
theorem dX2_bestWalls_0 : decode cX2_bestWalls 0 = .ok (.iconst 0, 1) := by decide +kernel
theorem dX2_bestWalls_1 : decode cX2_bestWalls 1 = .ok (.istore 4, 2) := by decide +kernel
theorem dX2_bestWalls_3 : decode cX2_bestWalls 3 = .ok (.iconst (-1), 1) := by decide +kernel
theorem dX2_bestWalls_4 : decode cX2_bestWalls 4 = .ok (.istore 5, 2) := by decide +kernel
theorem dX2_bestWalls_6 : decode cX2_bestWalls 6 = .ok (.iconst 0, 1) := by decide +kernel
theorem dX2_bestWalls_7 : decode cX2_bestWalls 7 = .ok (.istore 6, 2) := by decide +kernel
theorem dX2_bestWalls_9 : decode cX2_bestWalls 9 = .ok (.iload 6, 2) := by decide +kernel
theorem dX2_bestWalls_11 : decode cX2_bestWalls 11 = .ok (.iconst 1, 1) := by decide +kernel
theorem dX2_bestWalls_12 : decode cX2_bestWalls 12 = .ok (.aload_n 1, 1) := by decide +kernel
theorem dX2_bestWalls_13 : decode cX2_bestWalls 13 = .ok (.getfield 44, 3) := by decide +kernel
theorem dX2_bestWalls_16 : decode cX2_bestWalls 16 = .ok (.iconst 1, 1) := by decide +kernel
theorem dX2_bestWalls_17 : decode cX2_bestWalls 17 = .ok (.isub, 1) := by decide +kernel
theorem dX2_bestWalls_18 : decode cX2_bestWalls 18 = .ok (.ishl, 1) := by decide +kernel
theorem dX2_bestWalls_19 : decode cX2_bestWalls 19 = .ok (.if_icmp .ge 80, 3) := by decide +kernel
theorem dX2_bestWalls_22 : decode cX2_bestWalls 22 = .ok (.aload_n 0, 1) := by decide +kernel
theorem dX2_bestWalls_23 : decode cX2_bestWalls 23 = .ok (.getfield 12, 3) := by decide +kernel
theorem dX2_bestWalls_26 : decode cX2_bestWalls 26 = .ok (.aload_n 1, 1) := by decide +kernel
theorem dX2_bestWalls_27 : decode cX2_bestWalls 27 = .ok (.invokevirtual 25, 3) := by decide +kernel
theorem dX2_bestWalls_30 : decode cX2_bestWalls 30 = .ok (.aload_n 0, 1) := by decide +kernel
theorem dX2_bestWalls_31 : decode cX2_bestWalls 31 = .ok (.getfield 12, 3) := by decide +kernel
theorem dX2_bestWalls_34 : decode cX2_bestWalls 34 = .ok (.iload 6, 2) := by decide +kernel
theorem dX2_bestWalls_36 : decode cX2_bestWalls 36 = .ok (.putfield 58, 3) := by decide +kernel
theorem dX2_bestWalls_39 : decode cX2_bestWalls 39 = .ok (.aload_n 0, 1) := by decide +kernel
theorem dX2_bestWalls_40 : decode cX2_bestWalls 40 = .ok (.iload_n 2, 1) := by decide +kernel
theorem dX2_bestWalls_41 : decode cX2_bestWalls 41 = .ok (.invokevirtual 61, 3) := by decide +kernel
theorem dX2_bestWalls_44 : decode cX2_bestWalls 44 = .ok (.istore 7, 2) := by decide +kernel
theorem dX2_bestWalls_46 : decode cX2_bestWalls 46 = .ok (.iload 6, 2) := by decide +kernel
theorem dX2_bestWalls_48 : decode cX2_bestWalls 48 = .ok (.invokestatic 52, 3) := by decide +kernel
theorem dX2_bestWalls_51 : decode cX2_bestWalls 51 = .ok (.iload 4, 2) := by decide +kernel
theorem dX2_bestWalls_53 : decode cX2_bestWalls 53 = .ok (.invokestatic 52, 3) := by decide +kernel
theorem dX2_bestWalls_56 : decode cX2_bestWalls 56 = .ok (.if_icmp .ge 7, 3) := by decide +kernel
theorem dX2_bestWalls_59 : decode cX2_bestWalls 59 = .ok (.iconst 1, 1) := by decide +kernel
theorem dX2_bestWalls_60 : decode cX2_bestWalls 60 = .ok (.goto 4, 3) := by decide +kernel
theorem dX2_bestWalls_63 : decode cX2_bestWalls 63 = .ok (.iconst 0, 1) := by decide +kernel
theorem dX2_bestWalls_64 : decode cX2_bestWalls 64 = .ok (.istore 8, 2) := by decide +kernel
theorem dX2_bestWalls_66 : decode cX2_bestWalls 66 = .ok (.iload 7, 2) := by decide +kernel
theorem dX2_bestWalls_68 : decode cX2_bestWalls 68 = .ok (.iload 5, 2) := by decide +kernel
theorem dX2_bestWalls_70 : decode cX2_bestWalls 70 = .ok (.if_icmp .gt 15, 3) := by decide +kernel
theorem dX2_bestWalls_73 : decode cX2_bestWalls 73 = .ok (.iload 7, 2) := by decide +kernel
theorem dX2_bestWalls_75 : decode cX2_bestWalls 75 = .ok (.iload 5, 2) := by decide +kernel
theorem dX2_bestWalls_77 : decode cX2_bestWalls 77 = .ok (.if_icmp .ne 16, 3) := by decide +kernel
theorem dX2_bestWalls_80 : decode cX2_bestWalls 80 = .ok (.iload 8, 2) := by decide +kernel
theorem dX2_bestWalls_82 : decode cX2_bestWalls 82 = .ok (.ifCond .eq 11, 3) := by decide +kernel
theorem dX2_bestWalls_85 : decode cX2_bestWalls 85 = .ok (.iload 6, 2) := by decide +kernel
theorem dX2_bestWalls_87 : decode cX2_bestWalls 87 = .ok (.istore 4, 2) := by decide +kernel
theorem dX2_bestWalls_89 : decode cX2_bestWalls 89 = .ok (.iload 7, 2) := by decide +kernel
theorem dX2_bestWalls_91 : decode cX2_bestWalls 91 = .ok (.istore 5, 2) := by decide +kernel
theorem dX2_bestWalls_93 : decode cX2_bestWalls 93 = .ok (.iinc 6 1, 3) := by decide +kernel
theorem dX2_bestWalls_96 : decode cX2_bestWalls 96 = .ok (.goto (-87), 3) := by decide +kernel
theorem dX2_bestWalls_99 : decode cX2_bestWalls 99 = .ok (.iload_n 3, 1) := by decide +kernel
theorem dX2_bestWalls_100 : decode cX2_bestWalls 100 = .ok (.ifCond .ne 8, 3) := by decide +kernel
theorem dX2_bestWalls_103 : decode cX2_bestWalls 103 = .ok (.iload 4, 2) := by decide +kernel
theorem dX2_bestWalls_105 : decode cX2_bestWalls 105 = .ok (.goto 5, 3) := by decide +kernel
theorem dX2_bestWalls_108 : decode cX2_bestWalls 108 = .ok (.iload 5, 2) := by decide +kernel
theorem dX2_bestWalls_110 : decode cX2_bestWalls 110 = .ok (.ireturn, 1) := by decide +kernel
theorem dX2_bestSteadied_0 : decode cX2_bestSteadied 0 = .ok (.ldc 43, 2) := by decide +kernel
theorem dX2_bestSteadied_2 : decode cX2_bestSteadied 2 = .ok (.istore 4, 2) := by decide +kernel
theorem dX2_bestSteadied_4 : decode cX2_bestSteadied 4 = .ok (.ldc 43, 2) := by decide +kernel
theorem dX2_bestSteadied_6 : decode cX2_bestSteadied 6 = .ok (.istore 5, 2) := by decide +kernel
theorem dX2_bestSteadied_8 : decode cX2_bestSteadied 8 = .ok (.iconst 0, 1) := by decide +kernel
theorem dX2_bestSteadied_9 : decode cX2_bestSteadied 9 = .ok (.istore 6, 2) := by decide +kernel
theorem dX2_bestSteadied_11 : decode cX2_bestSteadied 11 = .ok (.iload 6, 2) := by decide +kernel
theorem dX2_bestSteadied_13 : decode cX2_bestSteadied 13 = .ok (.aload_n 1, 1) := by decide +kernel
theorem dX2_bestSteadied_14 : decode cX2_bestSteadied 14 = .ok (.getfield 44, 3) := by decide +kernel
theorem dX2_bestSteadied_17 : decode cX2_bestSteadied 17 = .ok (.if_icmp .ge 61, 3) := by decide +kernel
theorem dX2_bestSteadied_20 : decode cX2_bestSteadied 20 = .ok (.aload_n 1, 1) := by decide +kernel
theorem dX2_bestSteadied_21 : decode cX2_bestSteadied 21 = .ok (.getfield 33, 3) := by decide +kernel
theorem dX2_bestSteadied_24 : decode cX2_bestSteadied 24 = .ok (.iload 6, 2) := by decide +kernel
theorem dX2_bestSteadied_26 : decode cX2_bestSteadied 26 = .ok (.iaload, 1) := by decide +kernel
theorem dX2_bestSteadied_27 : decode cX2_bestSteadied 27 = .ok (.ifCond .le 45, 3) := by decide +kernel
theorem dX2_bestSteadied_30 : decode cX2_bestSteadied 30 = .ok (.aload_n 0, 1) := by decide +kernel
theorem dX2_bestSteadied_31 : decode cX2_bestSteadied 31 = .ok (.getfield 12, 3) := by decide +kernel
theorem dX2_bestSteadied_34 : decode cX2_bestSteadied 34 = .ok (.aload_n 1, 1) := by decide +kernel
theorem dX2_bestSteadied_35 : decode cX2_bestSteadied 35 = .ok (.invokevirtual 25, 3) := by decide +kernel
theorem dX2_bestSteadied_38 : decode cX2_bestSteadied 38 = .ok (.aload_n 0, 1) := by decide +kernel
theorem dX2_bestSteadied_39 : decode cX2_bestSteadied 39 = .ok (.getfield 12, 3) := by decide +kernel
theorem dX2_bestSteadied_42 : decode cX2_bestSteadied 42 = .ok (.getfield 33, 3) := by decide +kernel
theorem dX2_bestSteadied_45 : decode cX2_bestSteadied 45 = .ok (.iload 6, 2) := by decide +kernel
theorem dX2_bestSteadied_47 : decode cX2_bestSteadied 47 = .ok (.bipush 99, 2) := by decide +kernel
theorem dX2_bestSteadied_49 : decode cX2_bestSteadied 49 = .ok (.iastore, 1) := by decide +kernel
theorem dX2_bestSteadied_50 : decode cX2_bestSteadied 50 = .ok (.aload_n 0, 1) := by decide +kernel
theorem dX2_bestSteadied_51 : decode cX2_bestSteadied 51 = .ok (.iload_n 2, 1) := by decide +kernel
theorem dX2_bestSteadied_52 : decode cX2_bestSteadied 52 = .ok (.invokevirtual 61, 3) := by decide +kernel
theorem dX2_bestSteadied_55 : decode cX2_bestSteadied 55 = .ok (.istore 7, 2) := by decide +kernel
theorem dX2_bestSteadied_57 : decode cX2_bestSteadied 57 = .ok (.iload 7, 2) := by decide +kernel
theorem dX2_bestSteadied_59 : decode cX2_bestSteadied 59 = .ok (.iload 5, 2) := by decide +kernel
theorem dX2_bestSteadied_61 : decode cX2_bestSteadied 61 = .ok (.if_icmp .le 11, 3) := by decide +kernel
theorem dX2_bestSteadied_64 : decode cX2_bestSteadied 64 = .ok (.iload 6, 2) := by decide +kernel
theorem dX2_bestSteadied_66 : decode cX2_bestSteadied 66 = .ok (.istore 4, 2) := by decide +kernel
theorem dX2_bestSteadied_68 : decode cX2_bestSteadied 68 = .ok (.iload 7, 2) := by decide +kernel
theorem dX2_bestSteadied_70 : decode cX2_bestSteadied 70 = .ok (.istore 5, 2) := by decide +kernel
theorem dX2_bestSteadied_72 : decode cX2_bestSteadied 72 = .ok (.iinc 6 1, 3) := by decide +kernel
theorem dX2_bestSteadied_75 : decode cX2_bestSteadied 75 = .ok (.goto (-64), 3) := by decide +kernel
theorem dX2_bestSteadied_78 : decode cX2_bestSteadied 78 = .ok (.iload_n 3, 1) := by decide +kernel
theorem dX2_bestSteadied_79 : decode cX2_bestSteadied 79 = .ok (.ifCond .ne 8, 3) := by decide +kernel
theorem dX2_bestSteadied_82 : decode cX2_bestSteadied 82 = .ok (.iload 4, 2) := by decide +kernel
theorem dX2_bestSteadied_84 : decode cX2_bestSteadied 84 = .ok (.goto 5, 3) := by decide +kernel
theorem dX2_bestSteadied_87 : decode cX2_bestSteadied 87 = .ok (.iload 5, 2) := by decide +kernel
theorem dX2_bestSteadied_89 : decode cX2_bestSteadied 89 = .ok (.ireturn, 1) := by decide +kernel
theorem dX2_play_0 : decode cX2_play 0 = .ok (.iload_n 1, 1) := by decide +kernel
theorem dX2_play_1 : decode cX2_play 1 = .ok (.iload_n 2, 1) := by decide +kernel
theorem dX2_play_2 : decode cX2_play 2 = .ok (.if_icmp .ge 8, 3) := by decide +kernel
theorem dX2_play_5 : decode cX2_play 5 = .ok (.iload_n 1, 1) := by decide +kernel
theorem dX2_play_6 : decode cX2_play 6 = .ok (.iconst 4, 1) := by decide +kernel
theorem dX2_play_7 : decode cX2_play 7 = .ok (.if_icmp .lt 9, 3) := by decide +kernel
theorem dX2_play_10 : decode cX2_play 10 = .ok (.aload_n 0, 1) := by decide +kernel
theorem dX2_play_11 : decode cX2_play 11 = .ok (.iload_n 3, 1) := by decide +kernel
theorem dX2_play_12 : decode cX2_play 12 = .ok (.invokevirtual 64, 3) := by decide +kernel
theorem dX2_play_15 : decode cX2_play 15 = .ok (.ireturn, 1) := by decide +kernel
theorem dX2_play_16 : decode cX2_play 16 = .ok (.aload_n 0, 1) := by decide +kernel
theorem dX2_play_17 : decode cX2_play 17 = .ok (.getfield 18, 3) := by decide +kernel
theorem dX2_play_20 : decode cX2_play 20 = .ok (.getfield 33, 3) := by decide +kernel
theorem dX2_play_23 : decode cX2_play 23 = .ok (.astore 4, 2) := by decide +kernel
theorem dX2_play_25 : decode cX2_play 25 = .ok (.aload_n 0, 1) := by decide +kernel
theorem dX2_play_26 : decode cX2_play 26 = .ok (.iload_n 1, 1) := by decide +kernel
theorem dX2_play_27 : decode cX2_play 27 = .ok (.iconst 1, 1) := by decide +kernel
theorem dX2_play_28 : decode cX2_play 28 = .ok (.iadd, 1) := by decide +kernel
theorem dX2_play_29 : decode cX2_play 29 = .ok (.iload_n 2, 1) := by decide +kernel
theorem dX2_play_30 : decode cX2_play 30 = .ok (.iload_n 3, 1) := by decide +kernel
theorem dX2_play_31 : decode cX2_play 31 = .ok (.invokestatic 67, 3) := by decide +kernel
theorem dX2_play_34 : decode cX2_play 34 = .ok (.istore 5, 2) := by decide +kernel
theorem dX2_play_36 : decode cX2_play 36 = .ok (.iload_n 1, 1) := by decide +kernel
theorem dX2_play_37 : decode cX2_play 37 = .ok (.iconst 2, 1) := by decide +kernel
theorem dX2_play_38 : decode cX2_play 38 = .ok (.irem, 1) := by decide +kernel
theorem dX2_play_39 : decode cX2_play 39 = .ok (.istore 6, 2) := by decide +kernel
theorem dX2_play_41 : decode cX2_play 41 = .ok (.iload 6, 2) := by decide +kernel
theorem dX2_play_43 : decode cX2_play 43 = .ok (.aload_n 0, 1) := by decide +kernel
theorem dX2_play_44 : decode cX2_play 44 = .ok (.getfield 18, 3) := by decide +kernel
theorem dX2_play_47 : decode cX2_play 47 = .ok (.getfield 44, 3) := by decide +kernel
theorem dX2_play_50 : decode cX2_play 50 = .ok (.if_icmp .ge 80, 3) := by decide +kernel
theorem dX2_play_53 : decode cX2_play 53 = .ok (.aload 4, 2) := by decide +kernel
theorem dX2_play_55 : decode cX2_play 55 = .ok (.iload 6, 2) := by decide +kernel
theorem dX2_play_57 : decode cX2_play 57 = .ok (.iaload, 1) := by decide +kernel
theorem dX2_play_58 : decode cX2_play 58 = .ok (.istore 7, 2) := by decide +kernel
theorem dX2_play_60 : decode cX2_play 60 = .ok (.iload 7, 2) := by decide +kernel
theorem dX2_play_62 : decode cX2_play 62 = .ok (.ifCond .le 62, 3) := by decide +kernel
theorem dX2_play_65 : decode cX2_play 65 = .ok (.aload_n 0, 1) := by decide +kernel
theorem dX2_play_66 : decode cX2_play 66 = .ok (.getfield 18, 3) := by decide +kernel
theorem dX2_play_69 : decode cX2_play 69 = .ok (.iload 6, 2) := by decide +kernel
theorem dX2_play_71 : decode cX2_play 71 = .ok (.aload_n 0, 1) := by decide +kernel
theorem dX2_play_72 : decode cX2_play 72 = .ok (.getfield 18, 3) := by decide +kernel
theorem dX2_play_75 : decode cX2_play 75 = .ok (.getfield 71, 3) := by decide +kernel
theorem dX2_play_78 : decode cX2_play 78 = .ok (.invokevirtual 74, 3) := by decide +kernel
theorem dX2_play_81 : decode cX2_play 81 = .ok (.aload_n 0, 1) := by decide +kernel
theorem dX2_play_82 : decode cX2_play 82 = .ok (.iload_n 1, 1) := by decide +kernel
theorem dX2_play_83 : decode cX2_play 83 = .ok (.iconst 1, 1) := by decide +kernel
theorem dX2_play_84 : decode cX2_play 84 = .ok (.iadd, 1) := by decide +kernel
theorem dX2_play_85 : decode cX2_play 85 = .ok (.iload_n 2, 1) := by decide +kernel
theorem dX2_play_86 : decode cX2_play 86 = .ok (.iload_n 3, 1) := by decide +kernel
theorem dX2_play_87 : decode cX2_play 87 = .ok (.invokestatic 67, 3) := by decide +kernel
theorem dX2_play_90 : decode cX2_play 90 = .ok (.istore 8, 2) := by decide +kernel
theorem dX2_play_92 : decode cX2_play 92 = .ok (.iload_n 1, 1) := by decide +kernel
theorem dX2_play_93 : decode cX2_play 93 = .ok (.iconst 2, 1) := by decide +kernel
theorem dX2_play_94 : decode cX2_play 94 = .ok (.irem, 1) := by decide +kernel
theorem dX2_play_95 : decode cX2_play 95 = .ok (.ifCond .ne 13, 3) := by decide +kernel
theorem dX2_play_98 : decode cX2_play 98 = .ok (.iload 5, 2) := by decide +kernel
theorem dX2_play_100 : decode cX2_play 100 = .ok (.iload 8, 2) := by decide +kernel
theorem dX2_play_102 : decode cX2_play 102 = .ok (.invokestatic 78, 3) := by decide +kernel
theorem dX2_play_105 : decode cX2_play 105 = .ok (.goto 10, 3) := by decide +kernel
theorem dX2_play_108 : decode cX2_play 108 = .ok (.iload 5, 2) := by decide +kernel
theorem dX2_play_110 : decode cX2_play 110 = .ok (.iload 8, 2) := by decide +kernel
theorem dX2_play_112 : decode cX2_play 112 = .ok (.invokestatic 84, 3) := by decide +kernel
theorem dX2_play_115 : decode cX2_play 115 = .ok (.istore 5, 2) := by decide +kernel
theorem dX2_play_117 : decode cX2_play 117 = .ok (.aload 4, 2) := by decide +kernel
theorem dX2_play_119 : decode cX2_play 119 = .ok (.iload 6, 2) := by decide +kernel
theorem dX2_play_121 : decode cX2_play 121 = .ok (.iload 7, 2) := by decide +kernel
theorem dX2_play_123 : decode cX2_play 123 = .ok (.iastore, 1) := by decide +kernel
theorem dX2_play_124 : decode cX2_play 124 = .ok (.iinc 6 2, 3) := by decide +kernel
theorem dX2_play_127 : decode cX2_play 127 = .ok (.goto (-86), 3) := by decide +kernel
theorem dX2_play_130 : decode cX2_play 130 = .ok (.iload 5, 2) := by decide +kernel
theorem dX2_play_132 : decode cX2_play 132 = .ok (.ireturn, 1) := by decide +kernel
theorem dX2_evensLead_0 : decode cX2_evensLead 0 = .ok (.aload_n 0, 1) := by decide +kernel
theorem dX2_evensLead_1 : decode cX2_evensLead 1 = .ok (.getfield 12, 3) := by decide +kernel
theorem dX2_evensLead_4 : decode cX2_evensLead 4 = .ok (.aload_n 0, 1) := by decide +kernel
theorem dX2_evensLead_5 : decode cX2_evensLead 5 = .ok (.getfield 18, 3) := by decide +kernel
theorem dX2_evensLead_8 : decode cX2_evensLead 8 = .ok (.invokevirtual 25, 3) := by decide +kernel
theorem dX2_evensLead_11 : decode cX2_evensLead 11 = .ok (.aload_n 0, 1) := by decide +kernel
theorem dX2_evensLead_12 : decode cX2_evensLead 12 = .ok (.getfield 12, 3) := by decide +kernel
theorem dX2_evensLead_15 : decode cX2_evensLead 15 = .ok (.iload_n 1, 1) := by decide +kernel
theorem dX2_evensLead_16 : decode cX2_evensLead 16 = .ok (.invokevirtual 29, 3) := by decide +kernel
theorem dX2_evensLead_19 : decode cX2_evensLead 19 = .ok (.iconst 0, 1) := by decide +kernel
theorem dX2_evensLead_20 : decode cX2_evensLead 20 = .ok (.istore_n 2, 1) := by decide +kernel
theorem dX2_evensLead_21 : decode cX2_evensLead 21 = .ok (.iconst 0, 1) := by decide +kernel
theorem dX2_evensLead_22 : decode cX2_evensLead 22 = .ok (.istore_n 3, 1) := by decide +kernel
theorem dX2_evensLead_23 : decode cX2_evensLead 23 = .ok (.iload_n 3, 1) := by decide +kernel
theorem dX2_evensLead_24 : decode cX2_evensLead 24 = .ok (.aload_n 0, 1) := by decide +kernel
theorem dX2_evensLead_25 : decode cX2_evensLead 25 = .ok (.getfield 12, 3) := by decide +kernel
theorem dX2_evensLead_28 : decode cX2_evensLead 28 = .ok (.getfield 44, 3) := by decide +kernel
theorem dX2_evensLead_31 : decode cX2_evensLead 31 = .ok (.if_icmp .ge 40, 3) := by decide +kernel
theorem dX2_evensLead_34 : decode cX2_evensLead 34 = .ok (.iload_n 2, 1) := by decide +kernel
theorem dX2_evensLead_35 : decode cX2_evensLead 35 = .ok (.iload_n 3, 1) := by decide +kernel
theorem dX2_evensLead_36 : decode cX2_evensLead 36 = .ok (.iconst 2, 1) := by decide +kernel
theorem dX2_evensLead_37 : decode cX2_evensLead 37 = .ok (.irem, 1) := by decide +kernel
theorem dX2_evensLead_38 : decode cX2_evensLead 38 = .ok (.ifCond .ne 15, 3) := by decide +kernel
theorem dX2_evensLead_41 : decode cX2_evensLead 41 = .ok (.aload_n 0, 1) := by decide +kernel
theorem dX2_evensLead_42 : decode cX2_evensLead 42 = .ok (.getfield 12, 3) := by decide +kernel
theorem dX2_evensLead_45 : decode cX2_evensLead 45 = .ok (.getfield 33, 3) := by decide +kernel
theorem dX2_evensLead_48 : decode cX2_evensLead 48 = .ok (.iload_n 3, 1) := by decide +kernel
theorem dX2_evensLead_49 : decode cX2_evensLead 49 = .ok (.iaload, 1) := by decide +kernel
theorem dX2_evensLead_50 : decode cX2_evensLead 50 = .ok (.goto 13, 3) := by decide +kernel
theorem dX2_evensLead_53 : decode cX2_evensLead 53 = .ok (.aload_n 0, 1) := by decide +kernel
theorem dX2_evensLead_54 : decode cX2_evensLead 54 = .ok (.getfield 12, 3) := by decide +kernel
theorem dX2_evensLead_57 : decode cX2_evensLead 57 = .ok (.getfield 33, 3) := by decide +kernel
theorem dX2_evensLead_60 : decode cX2_evensLead 60 = .ok (.iload_n 3, 1) := by decide +kernel
theorem dX2_evensLead_61 : decode cX2_evensLead 61 = .ok (.iaload, 1) := by decide +kernel
theorem dX2_evensLead_62 : decode cX2_evensLead 62 = .ok (.ineg, 1) := by decide +kernel
theorem dX2_evensLead_63 : decode cX2_evensLead 63 = .ok (.iadd, 1) := by decide +kernel
theorem dX2_evensLead_64 : decode cX2_evensLead 64 = .ok (.istore_n 2, 1) := by decide +kernel
theorem dX2_evensLead_65 : decode cX2_evensLead 65 = .ok (.iinc 3 1, 3) := by decide +kernel
theorem dX2_evensLead_68 : decode cX2_evensLead 68 = .ok (.goto (-45), 3) := by decide +kernel
theorem dX2_evensLead_71 : decode cX2_evensLead 71 = .ok (.iload_n 2, 1) := by decide +kernel
theorem dX2_evensLead_72 : decode cX2_evensLead 72 = .ok (.ireturn, 1) := by decide +kernel
theorem dX2_listen_0 : decode cX2_listen 0 = .ok (.aload_n 0, 1) := by decide +kernel
theorem dX2_listen_1 : decode cX2_listen 1 = .ok (.iload_n 3, 1) := by decide +kernel
theorem dX2_listen_2 : decode cX2_listen 2 = .ok (.putfield 87, 3) := by decide +kernel
theorem dX2_listen_5 : decode cX2_listen 5 = .ok (.aload_n 1, 1) := by decide +kernel
theorem dX2_listen_6 : decode cX2_listen 6 = .ok (.iload_n 2, 1) := by decide +kernel
theorem dX2_listen_7 : decode cX2_listen 7 = .ok (.aload_n 0, 1) := by decide +kernel
theorem dX2_listen_8 : decode cX2_listen 8 = .ok (.getfield 21, 3) := by decide +kernel
theorem dX2_listen_11 : decode cX2_listen 11 = .ok (.iconst 0, 1) := by decide +kernel
theorem dX2_listen_12 : decode cX2_listen 12 = .ok (.iload_n 3, 1) := by decide +kernel
theorem dX2_listen_13 : decode cX2_listen 13 = .ok (.invokestatic 90, 3) := by decide +kernel
theorem dX2_listen_16 : decode cX2_listen 16 = .ok (.return_, 1) := by decide +kernel
theorem dX2_isHeard_0 : decode cX2_isHeard 0 = .ok (.iconst 0, 1) := by decide +kernel
theorem dX2_isHeard_1 : decode cX2_isHeard 1 = .ok (.istore_n 2, 1) := by decide +kernel
theorem dX2_isHeard_2 : decode cX2_isHeard 2 = .ok (.iload_n 2, 1) := by decide +kernel
theorem dX2_isHeard_3 : decode cX2_isHeard 3 = .ok (.aload_n 0, 1) := by decide +kernel
theorem dX2_isHeard_4 : decode cX2_isHeard 4 = .ok (.getfield 87, 3) := by decide +kernel
theorem dX2_isHeard_7 : decode cX2_isHeard 7 = .ok (.if_icmp .ge 36, 3) := by decide +kernel
theorem dX2_isHeard_10 : decode cX2_isHeard 10 = .ok (.aload_n 0, 1) := by decide +kernel
theorem dX2_isHeard_11 : decode cX2_isHeard 11 = .ok (.getfield 12, 3) := by decide +kernel
theorem dX2_isHeard_14 : decode cX2_isHeard 14 = .ok (.invokevirtual 40, 3) := by decide +kernel
theorem dX2_isHeard_17 : decode cX2_isHeard 17 = .ok (.aload_n 0, 1) := by decide +kernel
theorem dX2_isHeard_18 : decode cX2_isHeard 18 = .ok (.getfield 12, 3) := by decide +kernel
theorem dX2_isHeard_21 : decode cX2_isHeard 21 = .ok (.getfield 33, 3) := by decide +kernel
theorem dX2_isHeard_24 : decode cX2_isHeard 24 = .ok (.iload_n 1, 1) := by decide +kernel
theorem dX2_isHeard_25 : decode cX2_isHeard 25 = .ok (.iaload, 1) := by decide +kernel
theorem dX2_isHeard_26 : decode cX2_isHeard 26 = .ok (.aload_n 0, 1) := by decide +kernel
theorem dX2_isHeard_27 : decode cX2_isHeard 27 = .ok (.getfield 21, 3) := by decide +kernel
theorem dX2_isHeard_30 : decode cX2_isHeard 30 = .ok (.iload_n 2, 1) := by decide +kernel
theorem dX2_isHeard_31 : decode cX2_isHeard 31 = .ok (.iaload, 1) := by decide +kernel
theorem dX2_isHeard_32 : decode cX2_isHeard 32 = .ok (.if_icmp .eq 5, 3) := by decide +kernel
theorem dX2_isHeard_35 : decode cX2_isHeard 35 = .ok (.iconst 0, 1) := by decide +kernel
theorem dX2_isHeard_36 : decode cX2_isHeard 36 = .ok (.ireturn, 1) := by decide +kernel
theorem dX2_isHeard_37 : decode cX2_isHeard 37 = .ok (.iinc 2 1, 3) := by decide +kernel
theorem dX2_isHeard_40 : decode cX2_isHeard 40 = .ok (.goto (-38), 3) := by decide +kernel
theorem dX2_isHeard_43 : decode cX2_isHeard 43 = .ok (.iconst 1, 1) := by decide +kernel
theorem dX2_isHeard_44 : decode cX2_isHeard 44 = .ok (.ireturn, 1) := by decide +kernel
theorem dX2_kindsHeard_0 : decode cX2_kindsHeard 0 = .ok (.iconst 0, 1) := by decide +kernel
theorem dX2_kindsHeard_1 : decode cX2_kindsHeard 1 = .ok (.istore_n 3, 1) := by decide +kernel
theorem dX2_kindsHeard_2 : decode cX2_kindsHeard 2 = .ok (.iconst 1, 1) := by decide +kernel
theorem dX2_kindsHeard_3 : decode cX2_kindsHeard 3 = .ok (.istore 4, 2) := by decide +kernel
theorem dX2_kindsHeard_5 : decode cX2_kindsHeard 5 = .ok (.iload 4, 2) := by decide +kernel
theorem dX2_kindsHeard_7 : decode cX2_kindsHeard 7 = .ok (.iconst 5, 1) := by decide +kernel
theorem dX2_kindsHeard_8 : decode cX2_kindsHeard 8 = .ok (.if_icmp .gt 47, 3) := by decide +kernel
theorem dX2_kindsHeard_11 : decode cX2_kindsHeard 11 = .ok (.aload_n 0, 1) := by decide +kernel
theorem dX2_kindsHeard_12 : decode cX2_kindsHeard 12 = .ok (.getfield 12, 3) := by decide +kernel
theorem dX2_kindsHeard_15 : decode cX2_kindsHeard 15 = .ok (.aload_n 1, 1) := by decide +kernel
theorem dX2_kindsHeard_16 : decode cX2_kindsHeard 16 = .ok (.invokevirtual 25, 3) := by decide +kernel
theorem dX2_kindsHeard_19 : decode cX2_kindsHeard 19 = .ok (.aload_n 0, 1) := by decide +kernel
theorem dX2_kindsHeard_20 : decode cX2_kindsHeard 20 = .ok (.getfield 12, 3) := by decide +kernel
theorem dX2_kindsHeard_23 : decode cX2_kindsHeard 23 = .ok (.getfield 96, 3) := by decide +kernel
theorem dX2_kindsHeard_26 : decode cX2_kindsHeard 26 = .ok (.iload_n 2, 1) := by decide +kernel
theorem dX2_kindsHeard_27 : decode cX2_kindsHeard 27 = .ok (.iload 4, 2) := by decide +kernel
theorem dX2_kindsHeard_29 : decode cX2_kindsHeard 29 = .ok (.iastore, 1) := by decide +kernel
theorem dX2_kindsHeard_30 : decode cX2_kindsHeard 30 = .ok (.iload_n 3, 1) := by decide +kernel
theorem dX2_kindsHeard_31 : decode cX2_kindsHeard 31 = .ok (.aload_n 0, 1) := by decide +kernel
theorem dX2_kindsHeard_32 : decode cX2_kindsHeard 32 = .ok (.iload_n 2, 1) := by decide +kernel
theorem dX2_kindsHeard_33 : decode cX2_kindsHeard 33 = .ok (.invokevirtual 99, 3) := by decide +kernel
theorem dX2_kindsHeard_36 : decode cX2_kindsHeard 36 = .ok (.ifCond .eq 10, 3) := by decide +kernel
theorem dX2_kindsHeard_39 : decode cX2_kindsHeard 39 = .ok (.iconst 1, 1) := by decide +kernel
theorem dX2_kindsHeard_40 : decode cX2_kindsHeard 40 = .ok (.iload 4, 2) := by decide +kernel
theorem dX2_kindsHeard_42 : decode cX2_kindsHeard 42 = .ok (.ishl, 1) := by decide +kernel
theorem dX2_kindsHeard_43 : decode cX2_kindsHeard 43 = .ok (.goto 4, 3) := by decide +kernel
theorem dX2_kindsHeard_46 : decode cX2_kindsHeard 46 = .ok (.iconst 0, 1) := by decide +kernel
theorem dX2_kindsHeard_47 : decode cX2_kindsHeard 47 = .ok (.ior, 1) := by decide +kernel
theorem dX2_kindsHeard_48 : decode cX2_kindsHeard 48 = .ok (.istore_n 3, 1) := by decide +kernel
theorem dX2_kindsHeard_49 : decode cX2_kindsHeard 49 = .ok (.iinc 4 1, 3) := by decide +kernel
theorem dX2_kindsHeard_52 : decode cX2_kindsHeard 52 = .ok (.goto (-47), 3) := by decide +kernel
theorem dX2_kindsHeard_55 : decode cX2_kindsHeard 55 = .ok (.iload_n 3, 1) := by decide +kernel
theorem dX2_kindsHeard_56 : decode cX2_kindsHeard 56 = .ok (.ireturn, 1) := by decide +kernel
theorem dX2_rubsHeard_0 : decode cX2_rubsHeard 0 = .ok (.iconst 0, 1) := by decide +kernel
theorem dX2_rubsHeard_1 : decode cX2_rubsHeard 1 = .ok (.istore_n 3, 1) := by decide +kernel
theorem dX2_rubsHeard_2 : decode cX2_rubsHeard 2 = .ok (.iconst 1, 1) := by decide +kernel
theorem dX2_rubsHeard_3 : decode cX2_rubsHeard 3 = .ok (.istore 4, 2) := by decide +kernel
theorem dX2_rubsHeard_5 : decode cX2_rubsHeard 5 = .ok (.iload 4, 2) := by decide +kernel
theorem dX2_rubsHeard_7 : decode cX2_rubsHeard 7 = .ok (.bipush 9, 2) := by decide +kernel
theorem dX2_rubsHeard_9 : decode cX2_rubsHeard 9 = .ok (.if_icmp .gt 47, 3) := by decide +kernel
theorem dX2_rubsHeard_12 : decode cX2_rubsHeard 12 = .ok (.aload_n 0, 1) := by decide +kernel
theorem dX2_rubsHeard_13 : decode cX2_rubsHeard 13 = .ok (.getfield 12, 3) := by decide +kernel
theorem dX2_rubsHeard_16 : decode cX2_rubsHeard 16 = .ok (.aload_n 1, 1) := by decide +kernel
theorem dX2_rubsHeard_17 : decode cX2_rubsHeard 17 = .ok (.invokevirtual 25, 3) := by decide +kernel
theorem dX2_rubsHeard_20 : decode cX2_rubsHeard 20 = .ok (.aload_n 0, 1) := by decide +kernel
theorem dX2_rubsHeard_21 : decode cX2_rubsHeard 21 = .ok (.getfield 12, 3) := by decide +kernel
theorem dX2_rubsHeard_24 : decode cX2_rubsHeard 24 = .ok (.getfield 102, 3) := by decide +kernel
theorem dX2_rubsHeard_27 : decode cX2_rubsHeard 27 = .ok (.iload_n 2, 1) := by decide +kernel
theorem dX2_rubsHeard_28 : decode cX2_rubsHeard 28 = .ok (.iload 4, 2) := by decide +kernel
theorem dX2_rubsHeard_30 : decode cX2_rubsHeard 30 = .ok (.iastore, 1) := by decide +kernel
theorem dX2_rubsHeard_31 : decode cX2_rubsHeard 31 = .ok (.iload_n 3, 1) := by decide +kernel
theorem dX2_rubsHeard_32 : decode cX2_rubsHeard 32 = .ok (.aload_n 0, 1) := by decide +kernel
theorem dX2_rubsHeard_33 : decode cX2_rubsHeard 33 = .ok (.iload_n 2, 1) := by decide +kernel
theorem dX2_rubsHeard_34 : decode cX2_rubsHeard 34 = .ok (.invokevirtual 99, 3) := by decide +kernel
theorem dX2_rubsHeard_37 : decode cX2_rubsHeard 37 = .ok (.ifCond .eq 10, 3) := by decide +kernel
theorem dX2_rubsHeard_40 : decode cX2_rubsHeard 40 = .ok (.iconst 1, 1) := by decide +kernel
theorem dX2_rubsHeard_41 : decode cX2_rubsHeard 41 = .ok (.iload 4, 2) := by decide +kernel
theorem dX2_rubsHeard_43 : decode cX2_rubsHeard 43 = .ok (.ishl, 1) := by decide +kernel
theorem dX2_rubsHeard_44 : decode cX2_rubsHeard 44 = .ok (.goto 4, 3) := by decide +kernel
theorem dX2_rubsHeard_47 : decode cX2_rubsHeard 47 = .ok (.iconst 0, 1) := by decide +kernel
theorem dX2_rubsHeard_48 : decode cX2_rubsHeard 48 = .ok (.ior, 1) := by decide +kernel
theorem dX2_rubsHeard_49 : decode cX2_rubsHeard 49 = .ok (.istore_n 3, 1) := by decide +kernel
theorem dX2_rubsHeard_50 : decode cX2_rubsHeard 50 = .ok (.iinc 4 1, 3) := by decide +kernel
theorem dX2_rubsHeard_53 : decode cX2_rubsHeard 53 = .ok (.goto (-48), 3) := by decide +kernel
theorem dX2_rubsHeard_56 : decode cX2_rubsHeard 56 = .ok (.iload_n 3, 1) := by decide +kernel
theorem dX2_rubsHeard_57 : decode cX2_rubsHeard 57 = .ok (.ireturn, 1) := by decide +kernel
theorem dX2_spinsHeard_0 : decode cX2_spinsHeard 0 = .ok (.iconst 0, 1) := by decide +kernel
theorem dX2_spinsHeard_1 : decode cX2_spinsHeard 1 = .ok (.istore 4, 2) := by decide +kernel
theorem dX2_spinsHeard_3 : decode cX2_spinsHeard 3 = .ok (.ldc 43, 2) := by decide +kernel
theorem dX2_spinsHeard_5 : decode cX2_spinsHeard 5 = .ok (.istore 5, 2) := by decide +kernel
theorem dX2_spinsHeard_7 : decode cX2_spinsHeard 7 = .ok (.ldc 43, 2) := by decide +kernel
theorem dX2_spinsHeard_9 : decode cX2_spinsHeard 9 = .ok (.istore 6, 2) := by decide +kernel
theorem dX2_spinsHeard_11 : decode cX2_spinsHeard 11 = .ok (.iconst 0, 1) := by decide +kernel
theorem dX2_spinsHeard_12 : decode cX2_spinsHeard 12 = .ok (.istore 7, 2) := by decide +kernel
theorem dX2_spinsHeard_14 : decode cX2_spinsHeard 14 = .ok (.iload 7, 2) := by decide +kernel
theorem dX2_spinsHeard_16 : decode cX2_spinsHeard 16 = .ok (.bipush 100, 2) := by decide +kernel
theorem dX2_spinsHeard_18 : decode cX2_spinsHeard 18 = .ok (.if_icmp .ge 57, 3) := by decide +kernel
theorem dX2_spinsHeard_21 : decode cX2_spinsHeard 21 = .ok (.aload_n 0, 1) := by decide +kernel
theorem dX2_spinsHeard_22 : decode cX2_spinsHeard 22 = .ok (.getfield 12, 3) := by decide +kernel
theorem dX2_spinsHeard_25 : decode cX2_spinsHeard 25 = .ok (.aload_n 1, 1) := by decide +kernel
theorem dX2_spinsHeard_26 : decode cX2_spinsHeard 26 = .ok (.invokevirtual 25, 3) := by decide +kernel
theorem dX2_spinsHeard_29 : decode cX2_spinsHeard 29 = .ok (.aload_n 0, 1) := by decide +kernel
theorem dX2_spinsHeard_30 : decode cX2_spinsHeard 30 = .ok (.getfield 12, 3) := by decide +kernel
theorem dX2_spinsHeard_33 : decode cX2_spinsHeard 33 = .ok (.getfield 33, 3) := by decide +kernel
theorem dX2_spinsHeard_36 : decode cX2_spinsHeard 36 = .ok (.iload_n 2, 1) := by decide +kernel
theorem dX2_spinsHeard_37 : decode cX2_spinsHeard 37 = .ok (.iload 7, 2) := by decide +kernel
theorem dX2_spinsHeard_39 : decode cX2_spinsHeard 39 = .ok (.iastore, 1) := by decide +kernel
theorem dX2_spinsHeard_40 : decode cX2_spinsHeard 40 = .ok (.aload_n 0, 1) := by decide +kernel
theorem dX2_spinsHeard_41 : decode cX2_spinsHeard 41 = .ok (.iload_n 2, 1) := by decide +kernel
theorem dX2_spinsHeard_42 : decode cX2_spinsHeard 42 = .ok (.invokevirtual 99, 3) := by decide +kernel
theorem dX2_spinsHeard_45 : decode cX2_spinsHeard 45 = .ok (.ifCond .eq 24, 3) := by decide +kernel
theorem dX2_spinsHeard_48 : decode cX2_spinsHeard 48 = .ok (.iload 4, 2) := by decide +kernel
theorem dX2_spinsHeard_50 : decode cX2_spinsHeard 50 = .ok (.ifCond .ne 8, 3) := by decide +kernel
theorem dX2_spinsHeard_53 : decode cX2_spinsHeard 53 = .ok (.iload 7, 2) := by decide +kernel
theorem dX2_spinsHeard_55 : decode cX2_spinsHeard 55 = .ok (.goto 5, 3) := by decide +kernel
theorem dX2_spinsHeard_58 : decode cX2_spinsHeard 58 = .ok (.iload 5, 2) := by decide +kernel
theorem dX2_spinsHeard_60 : decode cX2_spinsHeard 60 = .ok (.istore 5, 2) := by decide +kernel
theorem dX2_spinsHeard_62 : decode cX2_spinsHeard 62 = .ok (.iload 7, 2) := by decide +kernel
theorem dX2_spinsHeard_64 : decode cX2_spinsHeard 64 = .ok (.istore 6, 2) := by decide +kernel
theorem dX2_spinsHeard_66 : decode cX2_spinsHeard 66 = .ok (.iinc 4 1, 3) := by decide +kernel
theorem dX2_spinsHeard_69 : decode cX2_spinsHeard 69 = .ok (.iinc 7 1, 3) := by decide +kernel
theorem dX2_spinsHeard_72 : decode cX2_spinsHeard 72 = .ok (.goto (-58), 3) := by decide +kernel
theorem dX2_spinsHeard_75 : decode cX2_spinsHeard 75 = .ok (.iload_n 3, 1) := by decide +kernel
theorem dX2_spinsHeard_76 : decode cX2_spinsHeard 76 = .ok (.iconst 2, 1) := by decide +kernel
theorem dX2_spinsHeard_77 : decode cX2_spinsHeard 77 = .ok (.if_icmp .ne 6, 3) := by decide +kernel
theorem dX2_spinsHeard_80 : decode cX2_spinsHeard 80 = .ok (.iload 4, 2) := by decide +kernel
theorem dX2_spinsHeard_82 : decode cX2_spinsHeard 82 = .ok (.ireturn, 1) := by decide +kernel
theorem dX2_spinsHeard_83 : decode cX2_spinsHeard 83 = .ok (.iload_n 3, 1) := by decide +kernel
theorem dX2_spinsHeard_84 : decode cX2_spinsHeard 84 = .ok (.iconst 3, 1) := by decide +kernel
theorem dX2_spinsHeard_85 : decode cX2_spinsHeard 85 = .ok (.if_icmp .ne 8, 3) := by decide +kernel
theorem dX2_spinsHeard_88 : decode cX2_spinsHeard 88 = .ok (.iload 5, 2) := by decide +kernel
theorem dX2_spinsHeard_90 : decode cX2_spinsHeard 90 = .ok (.goto 5, 3) := by decide +kernel
theorem dX2_spinsHeard_93 : decode cX2_spinsHeard 93 = .ok (.iload 6, 2) := by decide +kernel
theorem dX2_spinsHeard_95 : decode cX2_spinsHeard 95 = .ok (.ireturn, 1) := by decide +kernel
theorem dX2_fingersHeard_0 : decode cX2_fingersHeard 0 = .ok (.aload_n 0, 1) := by decide +kernel
theorem dX2_fingersHeard_1 : decode cX2_fingersHeard 1 = .ok (.getfield 12, 3) := by decide +kernel
theorem dX2_fingersHeard_4 : decode cX2_fingersHeard 4 = .ok (.aload_n 1, 1) := by decide +kernel
theorem dX2_fingersHeard_5 : decode cX2_fingersHeard 5 = .ok (.invokevirtual 25, 3) := by decide +kernel
theorem dX2_fingersHeard_8 : decode cX2_fingersHeard 8 = .ok (.aload_n 0, 1) := by decide +kernel
theorem dX2_fingersHeard_9 : decode cX2_fingersHeard 9 = .ok (.iload_n 2, 1) := by decide +kernel
theorem dX2_fingersHeard_10 : decode cX2_fingersHeard 10 = .ok (.invokevirtual 99, 3) := by decide +kernel
theorem dX2_fingersHeard_13 : decode cX2_fingersHeard 13 = .ok (.ifCond .eq 9, 3) := by decide +kernel
theorem dX2_fingersHeard_16 : decode cX2_fingersHeard 16 = .ok (.sipush 256, 3) := by decide +kernel
theorem dX2_fingersHeard_19 : decode cX2_fingersHeard 19 = .ok (.goto 4, 3) := by decide +kernel
theorem dX2_fingersHeard_22 : decode cX2_fingersHeard 22 = .ok (.iconst 0, 1) := by decide +kernel
theorem dX2_fingersHeard_23 : decode cX2_fingersHeard 23 = .ok (.istore_n 3, 1) := by decide +kernel
theorem dX2_fingersHeard_24 : decode cX2_fingersHeard 24 = .ok (.iconst 0, 1) := by decide +kernel
theorem dX2_fingersHeard_25 : decode cX2_fingersHeard 25 = .ok (.istore 4, 2) := by decide +kernel
theorem dX2_fingersHeard_27 : decode cX2_fingersHeard 27 = .ok (.iload 4, 2) := by decide +kernel
theorem dX2_fingersHeard_29 : decode cX2_fingersHeard 29 = .ok (.aload_n 1, 1) := by decide +kernel
theorem dX2_fingersHeard_30 : decode cX2_fingersHeard 30 = .ok (.getfield 44, 3) := by decide +kernel
theorem dX2_fingersHeard_33 : decode cX2_fingersHeard 33 = .ok (.if_icmp .ge 60, 3) := by decide +kernel
theorem dX2_fingersHeard_36 : decode cX2_fingersHeard 36 = .ok (.aload_n 1, 1) := by decide +kernel
theorem dX2_fingersHeard_37 : decode cX2_fingersHeard 37 = .ok (.getfield 33, 3) := by decide +kernel
theorem dX2_fingersHeard_40 : decode cX2_fingersHeard 40 = .ok (.iload 4, 2) := by decide +kernel
theorem dX2_fingersHeard_42 : decode cX2_fingersHeard 42 = .ok (.iaload, 1) := by decide +kernel
theorem dX2_fingersHeard_43 : decode cX2_fingersHeard 43 = .ok (.ifCond .le 44, 3) := by decide +kernel
theorem dX2_fingersHeard_46 : decode cX2_fingersHeard 46 = .ok (.aload_n 0, 1) := by decide +kernel
theorem dX2_fingersHeard_47 : decode cX2_fingersHeard 47 = .ok (.getfield 12, 3) := by decide +kernel
theorem dX2_fingersHeard_50 : decode cX2_fingersHeard 50 = .ok (.aload_n 1, 1) := by decide +kernel
theorem dX2_fingersHeard_51 : decode cX2_fingersHeard 51 = .ok (.invokevirtual 25, 3) := by decide +kernel
theorem dX2_fingersHeard_54 : decode cX2_fingersHeard 54 = .ok (.aload_n 0, 1) := by decide +kernel
theorem dX2_fingersHeard_55 : decode cX2_fingersHeard 55 = .ok (.getfield 12, 3) := by decide +kernel
theorem dX2_fingersHeard_58 : decode cX2_fingersHeard 58 = .ok (.getfield 33, 3) := by decide +kernel
theorem dX2_fingersHeard_61 : decode cX2_fingersHeard 61 = .ok (.iload 4, 2) := by decide +kernel
theorem dX2_fingersHeard_63 : decode cX2_fingersHeard 63 = .ok (.dup2, 1) := by decide +kernel
theorem dX2_fingersHeard_64 : decode cX2_fingersHeard 64 = .ok (.iaload, 1) := by decide +kernel
theorem dX2_fingersHeard_65 : decode cX2_fingersHeard 65 = .ok (.iconst 2, 1) := by decide +kernel
theorem dX2_fingersHeard_66 : decode cX2_fingersHeard 66 = .ok (.idiv, 1) := by decide +kernel
theorem dX2_fingersHeard_67 : decode cX2_fingersHeard 67 = .ok (.iastore, 1) := by decide +kernel
theorem dX2_fingersHeard_68 : decode cX2_fingersHeard 68 = .ok (.iload_n 3, 1) := by decide +kernel
theorem dX2_fingersHeard_69 : decode cX2_fingersHeard 69 = .ok (.aload_n 0, 1) := by decide +kernel
theorem dX2_fingersHeard_70 : decode cX2_fingersHeard 70 = .ok (.iload_n 2, 1) := by decide +kernel
theorem dX2_fingersHeard_71 : decode cX2_fingersHeard 71 = .ok (.invokevirtual 99, 3) := by decide +kernel
theorem dX2_fingersHeard_74 : decode cX2_fingersHeard 74 = .ok (.ifCond .eq 10, 3) := by decide +kernel
theorem dX2_fingersHeard_77 : decode cX2_fingersHeard 77 = .ok (.iconst 1, 1) := by decide +kernel
theorem dX2_fingersHeard_78 : decode cX2_fingersHeard 78 = .ok (.iload 4, 2) := by decide +kernel
theorem dX2_fingersHeard_80 : decode cX2_fingersHeard 80 = .ok (.ishl, 1) := by decide +kernel
theorem dX2_fingersHeard_81 : decode cX2_fingersHeard 81 = .ok (.goto 4, 3) := by decide +kernel
theorem dX2_fingersHeard_84 : decode cX2_fingersHeard 84 = .ok (.iconst 0, 1) := by decide +kernel
theorem dX2_fingersHeard_85 : decode cX2_fingersHeard 85 = .ok (.ior, 1) := by decide +kernel
theorem dX2_fingersHeard_86 : decode cX2_fingersHeard 86 = .ok (.istore_n 3, 1) := by decide +kernel
theorem dX2_fingersHeard_87 : decode cX2_fingersHeard 87 = .ok (.iinc 4 1, 3) := by decide +kernel
theorem dX2_fingersHeard_90 : decode cX2_fingersHeard 90 = .ok (.goto (-63), 3) := by decide +kernel
theorem dX2_fingersHeard_93 : decode cX2_fingersHeard 93 = .ok (.iload_n 3, 1) := by decide +kernel
theorem dX2_fingersHeard_94 : decode cX2_fingersHeard 94 = .ok (.ireturn, 1) := by decide +kernel
theorem dX2_lashesHeard_0 : decode cX2_lashesHeard 0 = .ok (.iconst 0, 1) := by decide +kernel
theorem dX2_lashesHeard_1 : decode cX2_lashesHeard 1 = .ok (.istore 4, 2) := by decide +kernel
theorem dX2_lashesHeard_3 : decode cX2_lashesHeard 3 = .ok (.iconst 1, 1) := by decide +kernel
theorem dX2_lashesHeard_4 : decode cX2_lashesHeard 4 = .ok (.istore 5, 2) := by decide +kernel
theorem dX2_lashesHeard_6 : decode cX2_lashesHeard 6 = .ok (.iload 5, 2) := by decide +kernel
theorem dX2_lashesHeard_8 : decode cX2_lashesHeard 8 = .ok (.bipush 30, 2) := by decide +kernel
theorem dX2_lashesHeard_10 : decode cX2_lashesHeard 10 = .ok (.if_icmp .gt 50, 3) := by decide +kernel
theorem dX2_lashesHeard_13 : decode cX2_lashesHeard 13 = .ok (.aload_n 0, 1) := by decide +kernel
theorem dX2_lashesHeard_14 : decode cX2_lashesHeard 14 = .ok (.getfield 12, 3) := by decide +kernel
theorem dX2_lashesHeard_17 : decode cX2_lashesHeard 17 = .ok (.aload_n 1, 1) := by decide +kernel
theorem dX2_lashesHeard_18 : decode cX2_lashesHeard 18 = .ok (.invokevirtual 25, 3) := by decide +kernel
theorem dX2_lashesHeard_21 : decode cX2_lashesHeard 21 = .ok (.aload_n 0, 1) := by decide +kernel
theorem dX2_lashesHeard_22 : decode cX2_lashesHeard 22 = .ok (.getfield 12, 3) := by decide +kernel
theorem dX2_lashesHeard_25 : decode cX2_lashesHeard 25 = .ok (.iload_n 3, 1) := by decide +kernel
theorem dX2_lashesHeard_26 : decode cX2_lashesHeard 26 = .ok (.iload 5, 2) := by decide +kernel
theorem dX2_lashesHeard_28 : decode cX2_lashesHeard 28 = .ok (.invokevirtual 74, 3) := by decide +kernel
theorem dX2_lashesHeard_31 : decode cX2_lashesHeard 31 = .ok (.iload 4, 2) := by decide +kernel
theorem dX2_lashesHeard_33 : decode cX2_lashesHeard 33 = .ok (.aload_n 0, 1) := by decide +kernel
theorem dX2_lashesHeard_34 : decode cX2_lashesHeard 34 = .ok (.iload_n 2, 1) := by decide +kernel
theorem dX2_lashesHeard_35 : decode cX2_lashesHeard 35 = .ok (.invokevirtual 99, 3) := by decide +kernel
theorem dX2_lashesHeard_38 : decode cX2_lashesHeard 38 = .ok (.ifCond .eq 12, 3) := by decide +kernel
theorem dX2_lashesHeard_41 : decode cX2_lashesHeard 41 = .ok (.iconst 1, 1) := by decide +kernel
theorem dX2_lashesHeard_42 : decode cX2_lashesHeard 42 = .ok (.iload 5, 2) := by decide +kernel
theorem dX2_lashesHeard_44 : decode cX2_lashesHeard 44 = .ok (.iconst 1, 1) := by decide +kernel
theorem dX2_lashesHeard_45 : decode cX2_lashesHeard 45 = .ok (.isub, 1) := by decide +kernel
theorem dX2_lashesHeard_46 : decode cX2_lashesHeard 46 = .ok (.ishl, 1) := by decide +kernel
theorem dX2_lashesHeard_47 : decode cX2_lashesHeard 47 = .ok (.goto 4, 3) := by decide +kernel
theorem dX2_lashesHeard_50 : decode cX2_lashesHeard 50 = .ok (.iconst 0, 1) := by decide +kernel
theorem dX2_lashesHeard_51 : decode cX2_lashesHeard 51 = .ok (.ior, 1) := by decide +kernel
theorem dX2_lashesHeard_52 : decode cX2_lashesHeard 52 = .ok (.istore 4, 2) := by decide +kernel
theorem dX2_lashesHeard_54 : decode cX2_lashesHeard 54 = .ok (.iinc 5 1, 3) := by decide +kernel
theorem dX2_lashesHeard_57 : decode cX2_lashesHeard 57 = .ok (.goto (-51), 3) := by decide +kernel
theorem dX2_lashesHeard_60 : decode cX2_lashesHeard 60 = .ok (.iload 4, 2) := by decide +kernel
theorem dX2_lashesHeard_62 : decode cX2_lashesHeard 62 = .ok (.ireturn, 1) := by decide +kernel
theorem dX2_chance_0 : decode cX2_chance 0 = .ok (.aload_n 1, 1) := by decide +kernel
theorem dX2_chance_1 : decode cX2_chance 1 = .ok (.invokevirtual 48, 3) := by decide +kernel
theorem dX2_chance_4 : decode cX2_chance 4 = .ok (.istore 6, 2) := by decide +kernel
theorem dX2_chance_6 : decode cX2_chance 6 = .ok (.lconst 0, 1) := by decide +kernel
theorem dX2_chance_7 : decode cX2_chance 7 = .ok (.lstore 7, 2) := by decide +kernel
theorem dX2_chance_9 : decode cX2_chance 9 = .ok (.iconst 0, 1) := by decide +kernel
theorem dX2_chance_10 : decode cX2_chance 10 = .ok (.istore 9, 2) := by decide +kernel
theorem dX2_chance_12 : decode cX2_chance 12 = .ok (.iload 9, 2) := by decide +kernel
theorem dX2_chance_14 : decode cX2_chance 14 = .ok (.iconst 1, 1) := by decide +kernel
theorem dX2_chance_15 : decode cX2_chance 15 = .ok (.aload_n 1, 1) := by decide +kernel
theorem dX2_chance_16 : decode cX2_chance 16 = .ok (.getfield 44, 3) := by decide +kernel
theorem dX2_chance_19 : decode cX2_chance 19 = .ok (.ishl, 1) := by decide +kernel
theorem dX2_chance_20 : decode cX2_chance 20 = .ok (.if_icmp .ge 67, 3) := by decide +kernel
theorem dX2_chance_23 : decode cX2_chance 23 = .ok (.iload 9, 2) := by decide +kernel
theorem dX2_chance_25 : decode cX2_chance 25 = .ok (.iload 6, 2) := by decide +kernel
theorem dX2_chance_27 : decode cX2_chance 27 = .ok (.iconst (-1), 1) := by decide +kernel
theorem dX2_chance_28 : decode cX2_chance 28 = .ok (.ixor, 1) := by decide +kernel
theorem dX2_chance_29 : decode cX2_chance 29 = .ok (.iand, 1) := by decide +kernel
theorem dX2_chance_30 : decode cX2_chance 30 = .ok (.ifCond .ne 51, 3) := by decide +kernel
theorem dX2_chance_33 : decode cX2_chance 33 = .ok (.aload_n 0, 1) := by decide +kernel
theorem dX2_chance_34 : decode cX2_chance 34 = .ok (.aload_n 1, 1) := by decide +kernel
theorem dX2_chance_35 : decode cX2_chance 35 = .ok (.iload 9, 2) := by decide +kernel
theorem dX2_chance_37 : decode cX2_chance 37 = .ok (.iload_n 2, 1) := by decide +kernel
theorem dX2_chance_38 : decode cX2_chance 38 = .ok (.iload_n 3, 1) := by decide +kernel
theorem dX2_chance_39 : decode cX2_chance 39 = .ok (.invokevirtual 105, 3) := by decide +kernel
theorem dX2_chance_42 : decode cX2_chance 42 = .ok (.ifCond .eq 39, 3) := by decide +kernel
theorem dX2_chance_45 : decode cX2_chance 45 = .ok (.iload 9, 2) := by decide +kernel
theorem dX2_chance_47 : decode cX2_chance 47 = .ok (.invokestatic 52, 3) := by decide +kernel
theorem dX2_chance_50 : decode cX2_chance 50 = .ok (.istore 10, 2) := by decide +kernel
theorem dX2_chance_52 : decode cX2_chance 52 = .ok (.lload 7, 2) := by decide +kernel
theorem dX2_chance_54 : decode cX2_chance 54 = .ok (.iload 4, 2) := by decide +kernel
theorem dX2_chance_56 : decode cX2_chance 56 = .ok (.iload 10, 2) := by decide +kernel
theorem dX2_chance_58 : decode cX2_chance 58 = .ok (.invokestatic 109, 3) := by decide +kernel
theorem dX2_chance_61 : decode cX2_chance 61 = .ok (.bipush 10, 2) := by decide +kernel
theorem dX2_chance_63 : decode cX2_chance 63 = .ok (.iload 4, 2) := by decide +kernel
theorem dX2_chance_65 : decode cX2_chance 65 = .ok (.isub, 1) := by decide +kernel
theorem dX2_chance_66 : decode cX2_chance 66 = .ok (.iload 6, 2) := by decide +kernel
theorem dX2_chance_68 : decode cX2_chance 68 = .ok (.invokestatic 52, 3) := by decide +kernel
theorem dX2_chance_71 : decode cX2_chance 71 = .ok (.iload 10, 2) := by decide +kernel
theorem dX2_chance_73 : decode cX2_chance 73 = .ok (.isub, 1) := by decide +kernel
theorem dX2_chance_74 : decode cX2_chance 74 = .ok (.invokestatic 109, 3) := by decide +kernel
theorem dX2_chance_77 : decode cX2_chance 77 = .ok (.lmul, 1) := by decide +kernel
theorem dX2_chance_78 : decode cX2_chance 78 = .ok (.ladd, 1) := by decide +kernel
theorem dX2_chance_79 : decode cX2_chance 79 = .ok (.lstore 7, 2) := by decide +kernel
theorem dX2_chance_81 : decode cX2_chance 81 = .ok (.iinc 9 1, 3) := by decide +kernel
theorem dX2_chance_84 : decode cX2_chance 84 = .ok (.goto (-72), 3) := by decide +kernel
theorem dX2_chance_87 : decode cX2_chance 87 = .ok (.bipush 10, 2) := by decide +kernel
theorem dX2_chance_89 : decode cX2_chance 89 = .ok (.iload 6, 2) := by decide +kernel
theorem dX2_chance_91 : decode cX2_chance 91 = .ok (.invokestatic 52, 3) := by decide +kernel
theorem dX2_chance_94 : decode cX2_chance 94 = .ok (.invokestatic 109, 3) := by decide +kernel
theorem dX2_chance_97 : decode cX2_chance 97 = .ok (.lstore 9, 2) := by decide +kernel
theorem dX2_chance_99 : decode cX2_chance 99 = .ok (.lload 9, 2) := by decide +kernel
theorem dX2_chance_101 : decode cX2_chance 101 = .ok (.lload 7, 2) := by decide +kernel
theorem dX2_chance_103 : decode cX2_chance 103 = .ok (.invokestatic 113, 3) := by decide +kernel
theorem dX2_chance_106 : decode cX2_chance 106 = .ok (.lstore 11, 2) := by decide +kernel
theorem dX2_chance_108 : decode cX2_chance 108 = .ok (.iload 5, 2) := by decide +kernel
theorem dX2_chance_110 : decode cX2_chance 110 = .ok (.ifCond .ne 8, 3) := by decide +kernel
theorem dX2_chance_113 : decode cX2_chance 113 = .ok (.lload 7, 2) := by decide +kernel
theorem dX2_chance_115 : decode cX2_chance 115 = .ok (.goto 5, 3) := by decide +kernel
theorem dX2_chance_118 : decode cX2_chance 118 = .ok (.lload 9, 2) := by decide +kernel
theorem dX2_chance_120 : decode cX2_chance 120 = .ok (.lload 11, 2) := by decide +kernel
theorem dX2_chance_122 : decode cX2_chance 122 = .ok (.ldiv, 1) := by decide +kernel
theorem dX2_chance_123 : decode cX2_chance 123 = .ok (.lreturn, 1) := by decide +kernel
theorem dX2_standsCracked_0 : decode cX2_standsCracked 0 = .ok (.aload_n 0, 1) := by decide +kernel
theorem dX2_standsCracked_1 : decode cX2_standsCracked 1 = .ok (.getfield 12, 3) := by decide +kernel
theorem dX2_standsCracked_4 : decode cX2_standsCracked 4 = .ok (.aload_n 1, 1) := by decide +kernel
theorem dX2_standsCracked_5 : decode cX2_standsCracked 5 = .ok (.invokevirtual 25, 3) := by decide +kernel
theorem dX2_standsCracked_8 : decode cX2_standsCracked 8 = .ok (.iconst 0, 1) := by decide +kernel
theorem dX2_standsCracked_9 : decode cX2_standsCracked 9 = .ok (.istore 5, 2) := by decide +kernel
theorem dX2_standsCracked_11 : decode cX2_standsCracked 11 = .ok (.iload 5, 2) := by decide +kernel
theorem dX2_standsCracked_13 : decode cX2_standsCracked 13 = .ok (.aload_n 1, 1) := by decide +kernel
theorem dX2_standsCracked_14 : decode cX2_standsCracked 14 = .ok (.getfield 44, 3) := by decide +kernel
theorem dX2_standsCracked_17 : decode cX2_standsCracked 17 = .ok (.if_icmp .ge 36, 3) := by decide +kernel
theorem dX2_standsCracked_20 : decode cX2_standsCracked 20 = .ok (.aload_n 0, 1) := by decide +kernel
theorem dX2_standsCracked_21 : decode cX2_standsCracked 21 = .ok (.getfield 12, 3) := by decide +kernel
theorem dX2_standsCracked_24 : decode cX2_standsCracked 24 = .ok (.getfield 33, 3) := by decide +kernel
theorem dX2_standsCracked_27 : decode cX2_standsCracked 27 = .ok (.iload 5, 2) := by decide +kernel
theorem dX2_standsCracked_29 : decode cX2_standsCracked 29 = .ok (.dup2, 1) := by decide +kernel
theorem dX2_standsCracked_30 : decode cX2_standsCracked 30 = .ok (.iaload, 1) := by decide +kernel
theorem dX2_standsCracked_31 : decode cX2_standsCracked 31 = .ok (.iload_n 2, 1) := by decide +kernel
theorem dX2_standsCracked_32 : decode cX2_standsCracked 32 = .ok (.iload 5, 2) := by decide +kernel
theorem dX2_standsCracked_34 : decode cX2_standsCracked 34 = .ok (.ishr, 1) := by decide +kernel
theorem dX2_standsCracked_35 : decode cX2_standsCracked 35 = .ok (.iconst 1, 1) := by decide +kernel
theorem dX2_standsCracked_36 : decode cX2_standsCracked 36 = .ok (.iand, 1) := by decide +kernel
theorem dX2_standsCracked_37 : decode cX2_standsCracked 37 = .ok (.ifCond .eq 7, 3) := by decide +kernel
theorem dX2_standsCracked_40 : decode cX2_standsCracked 40 = .ok (.iconst 2, 1) := by decide +kernel
theorem dX2_standsCracked_41 : decode cX2_standsCracked 41 = .ok (.goto 4, 3) := by decide +kernel
theorem dX2_standsCracked_44 : decode cX2_standsCracked 44 = .ok (.iconst 1, 1) := by decide +kernel
theorem dX2_standsCracked_45 : decode cX2_standsCracked 45 = .ok (.idiv, 1) := by decide +kernel
theorem dX2_standsCracked_46 : decode cX2_standsCracked 46 = .ok (.iastore, 1) := by decide +kernel
theorem dX2_standsCracked_47 : decode cX2_standsCracked 47 = .ok (.iinc 5 1, 3) := by decide +kernel
theorem dX2_standsCracked_50 : decode cX2_standsCracked 50 = .ok (.goto (-39), 3) := by decide +kernel
theorem dX2_standsCracked_53 : decode cX2_standsCracked 53 = .ok (.aload_n 0, 1) := by decide +kernel
theorem dX2_standsCracked_54 : decode cX2_standsCracked 54 = .ok (.getfield 12, 3) := by decide +kernel
theorem dX2_standsCracked_57 : decode cX2_standsCracked 57 = .ok (.iload 4, 2) := by decide +kernel
theorem dX2_standsCracked_59 : decode cX2_standsCracked 59 = .ok (.invokevirtual 29, 3) := by decide +kernel
theorem dX2_standsCracked_62 : decode cX2_standsCracked 62 = .ok (.aload_n 0, 1) := by decide +kernel
theorem dX2_standsCracked_63 : decode cX2_standsCracked 63 = .ok (.getfield 12, 3) := by decide +kernel
theorem dX2_standsCracked_66 : decode cX2_standsCracked 66 = .ok (.getfield 33, 3) := by decide +kernel
theorem dX2_standsCracked_69 : decode cX2_standsCracked 69 = .ok (.iload_n 3, 1) := by decide +kernel
theorem dX2_standsCracked_70 : decode cX2_standsCracked 70 = .ok (.iaload, 1) := by decide +kernel
theorem dX2_standsCracked_71 : decode cX2_standsCracked 71 = .ok (.ifCond .le 7, 3) := by decide +kernel
theorem dX2_standsCracked_74 : decode cX2_standsCracked 74 = .ok (.iconst 1, 1) := by decide +kernel
theorem dX2_standsCracked_75 : decode cX2_standsCracked 75 = .ok (.goto 4, 3) := by decide +kernel
theorem dX2_standsCracked_78 : decode cX2_standsCracked 78 = .ok (.iconst 0, 1) := by decide +kernel
theorem dX2_standsCracked_79 : decode cX2_standsCracked 79 = .ok (.ireturn, 1) := by decide +kernel
theorem dX2_power_0 : decode cX2_power 0 = .ok (.lconst 1, 1) := by decide +kernel
theorem dX2_power_1 : decode cX2_power 1 = .ok (.lstore_n 2, 1) := by decide +kernel
theorem dX2_power_2 : decode cX2_power 2 = .ok (.iconst 0, 1) := by decide +kernel
theorem dX2_power_3 : decode cX2_power 3 = .ok (.istore 4, 2) := by decide +kernel
theorem dX2_power_5 : decode cX2_power 5 = .ok (.iload 4, 2) := by decide +kernel
theorem dX2_power_7 : decode cX2_power 7 = .ok (.iload_n 1, 1) := by decide +kernel
theorem dX2_power_8 : decode cX2_power 8 = .ok (.if_icmp .ge 14, 3) := by decide +kernel
theorem dX2_power_11 : decode cX2_power 11 = .ok (.lload_n 2, 1) := by decide +kernel
theorem dX2_power_12 : decode cX2_power 12 = .ok (.iload_n 0, 1) := by decide +kernel
theorem dX2_power_13 : decode cX2_power 13 = .ok (.i2l, 1) := by decide +kernel
theorem dX2_power_14 : decode cX2_power 14 = .ok (.lmul, 1) := by decide +kernel
theorem dX2_power_15 : decode cX2_power 15 = .ok (.lstore_n 2, 1) := by decide +kernel
theorem dX2_power_16 : decode cX2_power 16 = .ok (.iinc 4 1, 3) := by decide +kernel
theorem dX2_power_19 : decode cX2_power 19 = .ok (.goto (-14), 3) := by decide +kernel
theorem dX2_power_22 : decode cX2_power 22 = .ok (.lload_n 2, 1) := by decide +kernel
theorem dX2_power_23 : decode cX2_power 23 = .ok (.lreturn, 1) := by decide +kernel
theorem dX2_commonDivisor_0 : decode cX2_commonDivisor 0 = .ok (.lload_n 0, 1) := by decide +kernel
theorem dX2_commonDivisor_1 : decode cX2_commonDivisor 1 = .ok (.lstore 4, 2) := by decide +kernel
theorem dX2_commonDivisor_3 : decode cX2_commonDivisor 3 = .ok (.lload_n 2, 1) := by decide +kernel
theorem dX2_commonDivisor_4 : decode cX2_commonDivisor 4 = .ok (.lstore 6, 2) := by decide +kernel
theorem dX2_commonDivisor_6 : decode cX2_commonDivisor 6 = .ok (.iconst 0, 1) := by decide +kernel
theorem dX2_commonDivisor_7 : decode cX2_commonDivisor 7 = .ok (.istore 8, 2) := by decide +kernel
theorem dX2_commonDivisor_9 : decode cX2_commonDivisor 9 = .ok (.iload 8, 2) := by decide +kernel
theorem dX2_commonDivisor_11 : decode cX2_commonDivisor 11 = .ok (.sipush 1000, 3) := by decide +kernel
theorem dX2_commonDivisor_14 : decode cX2_commonDivisor 14 = .ok (.if_icmp .ge 31, 3) := by decide +kernel
theorem dX2_commonDivisor_17 : decode cX2_commonDivisor 17 = .ok (.lload 6, 2) := by decide +kernel
theorem dX2_commonDivisor_19 : decode cX2_commonDivisor 19 = .ok (.lconst 0, 1) := by decide +kernel
theorem dX2_commonDivisor_20 : decode cX2_commonDivisor 20 = .ok (.lcmp, 1) := by decide +kernel
theorem dX2_commonDivisor_21 : decode cX2_commonDivisor 21 = .ok (.ifCond .le 24, 3) := by decide +kernel
theorem dX2_commonDivisor_24 : decode cX2_commonDivisor 24 = .ok (.lload 4, 2) := by decide +kernel
theorem dX2_commonDivisor_26 : decode cX2_commonDivisor 26 = .ok (.lload 6, 2) := by decide +kernel
theorem dX2_commonDivisor_28 : decode cX2_commonDivisor 28 = .ok (.lrem, 1) := by decide +kernel
theorem dX2_commonDivisor_29 : decode cX2_commonDivisor 29 = .ok (.lstore 9, 2) := by decide +kernel
theorem dX2_commonDivisor_31 : decode cX2_commonDivisor 31 = .ok (.lload 6, 2) := by decide +kernel
theorem dX2_commonDivisor_33 : decode cX2_commonDivisor 33 = .ok (.lstore 4, 2) := by decide +kernel
theorem dX2_commonDivisor_35 : decode cX2_commonDivisor 35 = .ok (.lload 9, 2) := by decide +kernel
theorem dX2_commonDivisor_37 : decode cX2_commonDivisor 37 = .ok (.lstore 6, 2) := by decide +kernel
theorem dX2_commonDivisor_39 : decode cX2_commonDivisor 39 = .ok (.iinc 8 1, 3) := by decide +kernel
theorem dX2_commonDivisor_42 : decode cX2_commonDivisor 42 = .ok (.goto (-33), 3) := by decide +kernel
theorem dX2_commonDivisor_45 : decode cX2_commonDivisor 45 = .ok (.lconst 1, 1) := by decide +kernel
theorem dX2_commonDivisor_46 : decode cX2_commonDivisor 46 = .ok (.lload 4, 2) := by decide +kernel
theorem dX2_commonDivisor_48 : decode cX2_commonDivisor 48 = .ok (.invokestatic 117, 3) := by decide +kernel
theorem dX2_commonDivisor_51 : decode cX2_commonDivisor 51 = .ok (.lreturn, 1) := by decide +kernel
theorem dX2_decades_0 : decode cX2_decades 0 = .ok (.aload_n 0, 1) := by decide +kernel
theorem dX2_decades_1 : decode cX2_decades 1 = .ok (.getfield 12, 3) := by decide +kernel
theorem dX2_decades_4 : decode cX2_decades 4 = .ok (.aload_n 1, 1) := by decide +kernel
theorem dX2_decades_5 : decode cX2_decades 5 = .ok (.invokevirtual 25, 3) := by decide +kernel
theorem dX2_decades_8 : decode cX2_decades 8 = .ok (.iload_n 3, 1) := by decide +kernel
theorem dX2_decades_9 : decode cX2_decades 9 = .ok (.i2l, 1) := by decide +kernel
theorem dX2_decades_10 : decode cX2_decades 10 = .ok (.lstore 4, 2) := by decide +kernel
theorem dX2_decades_12 : decode cX2_decades 12 = .ok (.iconst 0, 1) := by decide +kernel
theorem dX2_decades_13 : decode cX2_decades 13 = .ok (.istore 6, 2) := by decide +kernel
theorem dX2_decades_15 : decode cX2_decades 15 = .ok (.iload 6, 2) := by decide +kernel
theorem dX2_decades_17 : decode cX2_decades 17 = .ok (.iload_n 2, 1) := by decide +kernel
theorem dX2_decades_18 : decode cX2_decades 18 = .ok (.if_icmp .ge 112, 3) := by decide +kernel
theorem dX2_decades_21 : decode cX2_decades 21 = .ok (.aload_n 1, 1) := by decide +kernel
theorem dX2_decades_22 : decode cX2_decades 22 = .ok (.getfield 44, 3) := by decide +kernel
theorem dX2_decades_25 : decode cX2_decades 25 = .ok (.ifCond .le 105, 3) := by decide +kernel
theorem dX2_decades_28 : decode cX2_decades 28 = .ok (.lload 4, 2) := by decide +kernel
theorem dX2_decades_30 : decode cX2_decades 30 = .ok (.ldc2_w 119, 3) := by decide +kernel
theorem dX2_decades_33 : decode cX2_decades 33 = .ok (.lmul, 1) := by decide +kernel
theorem dX2_decades_34 : decode cX2_decades 34 = .ok (.ldc2_w 121, 3) := by decide +kernel
theorem dX2_decades_37 : decode cX2_decades 37 = .ok (.lrem, 1) := by decide +kernel
theorem dX2_decades_38 : decode cX2_decades 38 = .ok (.lstore 4, 2) := by decide +kernel
theorem dX2_decades_40 : decode cX2_decades 40 = .ok (.lload 4, 2) := by decide +kernel
theorem dX2_decades_42 : decode cX2_decades 42 = .ok (.aload_n 1, 1) := by decide +kernel
theorem dX2_decades_43 : decode cX2_decades 43 = .ok (.getfield 44, 3) := by decide +kernel
theorem dX2_decades_46 : decode cX2_decades 46 = .ok (.i2l, 1) := by decide +kernel
theorem dX2_decades_47 : decode cX2_decades 47 = .ok (.lrem, 1) := by decide +kernel
theorem dX2_decades_48 : decode cX2_decades 48 = .ok (.l2i, 1) := by decide +kernel
theorem dX2_decades_49 : decode cX2_decades 49 = .ok (.istore 7, 2) := by decide +kernel
theorem dX2_decades_51 : decode cX2_decades 51 = .ok (.aload_n 0, 1) := by decide +kernel
theorem dX2_decades_52 : decode cX2_decades 52 = .ok (.getfield 12, 3) := by decide +kernel
theorem dX2_decades_55 : decode cX2_decades 55 = .ok (.getfield 33, 3) := by decide +kernel
theorem dX2_decades_58 : decode cX2_decades 58 = .ok (.iload 7, 2) := by decide +kernel
theorem dX2_decades_60 : decode cX2_decades 60 = .ok (.iaload, 1) := by decide +kernel
theorem dX2_decades_61 : decode cX2_decades 61 = .ok (.ifCond .le 33, 3) := by decide +kernel
theorem dX2_decades_64 : decode cX2_decades 64 = .ok (.lload 4, 2) := by decide +kernel
theorem dX2_decades_66 : decode cX2_decades 66 = .ok (.ldc2_w 123, 3) := by decide +kernel
theorem dX2_decades_69 : decode cX2_decades 69 = .ok (.lrem, 1) := by decide +kernel
theorem dX2_decades_70 : decode cX2_decades 70 = .ok (.lconst 0, 1) := by decide +kernel
theorem dX2_decades_71 : decode cX2_decades 71 = .ok (.lcmp, 1) := by decide +kernel
theorem dX2_decades_72 : decode cX2_decades 72 = .ok (.ifCond .ne 45, 3) := by decide +kernel
theorem dX2_decades_75 : decode cX2_decades 75 = .ok (.aload_n 0, 1) := by decide +kernel
theorem dX2_decades_76 : decode cX2_decades 76 = .ok (.getfield 12, 3) := by decide +kernel
theorem dX2_decades_79 : decode cX2_decades 79 = .ok (.iload 7, 2) := by decide +kernel
theorem dX2_decades_81 : decode cX2_decades 81 = .ok (.aload_n 0, 1) := by decide +kernel
theorem dX2_decades_82 : decode cX2_decades 82 = .ok (.getfield 12, 3) := by decide +kernel
theorem dX2_decades_85 : decode cX2_decades 85 = .ok (.getfield 71, 3) := by decide +kernel
theorem dX2_decades_88 : decode cX2_decades 88 = .ok (.invokevirtual 74, 3) := by decide +kernel
theorem dX2_decades_91 : decode cX2_decades 91 = .ok (.goto 26, 3) := by decide +kernel
theorem dX2_decades_94 : decode cX2_decades 94 = .ok (.lload 4, 2) := by decide +kernel
theorem dX2_decades_96 : decode cX2_decades 96 = .ok (.ldc2_w 125, 3) := by decide +kernel
theorem dX2_decades_99 : decode cX2_decades 99 = .ok (.lrem, 1) := by decide +kernel
theorem dX2_decades_100 : decode cX2_decades 100 = .ok (.lconst 0, 1) := by decide +kernel
theorem dX2_decades_101 : decode cX2_decades 101 = .ok (.lcmp, 1) := by decide +kernel
theorem dX2_decades_102 : decode cX2_decades 102 = .ok (.ifCond .ne 15, 3) := by decide +kernel
theorem dX2_decades_105 : decode cX2_decades 105 = .ok (.aload_n 0, 1) := by decide +kernel
theorem dX2_decades_106 : decode cX2_decades 106 = .ok (.getfield 12, 3) := by decide +kernel
theorem dX2_decades_109 : decode cX2_decades 109 = .ok (.getfield 33, 3) := by decide +kernel
theorem dX2_decades_112 : decode cX2_decades 112 = .ok (.iload 7, 2) := by decide +kernel
theorem dX2_decades_114 : decode cX2_decades 114 = .ok (.bipush 50, 2) := by decide +kernel
theorem dX2_decades_116 : decode cX2_decades 116 = .ok (.iastore, 1) := by decide +kernel
theorem dX2_decades_117 : decode cX2_decades 117 = .ok (.aload_n 0, 1) := by decide +kernel
theorem dX2_decades_118 : decode cX2_decades 118 = .ok (.getfield 12, 3) := by decide +kernel
theorem dX2_decades_121 : decode cX2_decades 121 = .ok (.invokevirtual 40, 3) := by decide +kernel
theorem dX2_decades_124 : decode cX2_decades 124 = .ok (.iinc 6 1, 3) := by decide +kernel
theorem dX2_decades_127 : decode cX2_decades 127 = .ok (.goto (-112), 3) := by decide +kernel
theorem dX2_decades_130 : decode cX2_decades 130 = .ok (.aload_n 0, 1) := by decide +kernel
theorem dX2_decades_131 : decode cX2_decades 131 = .ok (.getfield 12, 3) := by decide +kernel
theorem dX2_decades_134 : decode cX2_decades 134 = .ok (.areturn, 1) := by decide +kernel
theorem dX3_init_0 : decode cX3_init 0 = .ok (.aload_n 0, 1) := by decide +kernel
theorem dX3_init_1 : decode cX3_init 1 = .ok (.invokespecial 3, 3) := by decide +kernel
theorem dX3_init_4 : decode cX3_init 4 = .ok (.aload_n 0, 1) := by decide +kernel
theorem dX3_init_5 : decode cX3_init 5 = .ok (.bipush 8, 2) := by decide +kernel
theorem dX3_init_7 : decode cX3_init 7 = .ok (.anewarray 9, 3) := by decide +kernel
theorem dX3_init_10 : decode cX3_init 10 = .ok (.putfield 11, 3) := by decide +kernel
theorem dX3_init_13 : decode cX3_init 13 = .ok (.aload_n 0, 1) := by decide +kernel
theorem dX3_init_14 : decode cX3_init 14 = .ok (.bipush 7, 2) := by decide +kernel
theorem dX3_init_16 : decode cX3_init 16 = .ok (.newarray .int, 2) := by decide +kernel
theorem dX3_init_18 : decode cX3_init 18 = .ok (.putfield 17, 3) := by decide +kernel
theorem dX3_init_21 : decode cX3_init 21 = .ok (.aload_n 0, 1) := by decide +kernel
theorem dX3_init_22 : decode cX3_init 22 = .ok (.bipush 7, 2) := by decide +kernel
theorem dX3_init_24 : decode cX3_init 24 = .ok (.newarray .int, 2) := by decide +kernel
theorem dX3_init_26 : decode cX3_init 26 = .ok (.putfield 21, 3) := by decide +kernel
theorem dX3_init_29 : decode cX3_init 29 = .ok (.iconst 0, 1) := by decide +kernel
theorem dX3_init_30 : decode cX3_init 30 = .ok (.istore_n 1, 1) := by decide +kernel
theorem dX3_init_31 : decode cX3_init 31 = .ok (.iload_n 1, 1) := by decide +kernel
theorem dX3_init_32 : decode cX3_init 32 = .ok (.bipush 7, 2) := by decide +kernel
theorem dX3_init_34 : decode cX3_init 34 = .ok (.if_icmp .gt 22, 3) := by decide +kernel
theorem dX3_init_37 : decode cX3_init 37 = .ok (.aload_n 0, 1) := by decide +kernel
theorem dX3_init_38 : decode cX3_init 38 = .ok (.getfield 11, 3) := by decide +kernel
theorem dX3_init_41 : decode cX3_init 41 = .ok (.iload_n 1, 1) := by decide +kernel
theorem dX3_init_42 : decode cX3_init 42 = .ok (.new 9, 3) := by decide +kernel
theorem dX3_init_45 : decode cX3_init 45 = .ok (.dup, 1) := by decide +kernel
theorem dX3_init_46 : decode cX3_init 46 = .ok (.invokespecial 24, 3) := by decide +kernel
theorem dX3_init_49 : decode cX3_init 49 = .ok (.aastore, 1) := by decide +kernel
theorem dX3_init_50 : decode cX3_init 50 = .ok (.iinc 1 1, 3) := by decide +kernel
theorem dX3_init_53 : decode cX3_init 53 = .ok (.goto (-22), 3) := by decide +kernel
theorem dX3_init_56 : decode cX3_init 56 = .ok (.return_, 1) := by decide +kernel
theorem dX3_search_0 : decode cX3_search 0 = .ok (.aload_n 0, 1) := by decide +kernel
theorem dX3_search_1 : decode cX3_search 1 = .ok (.iconst (-1), 1) := by decide +kernel
theorem dX3_search_2 : decode cX3_search 2 = .ok (.putfield 25, 3) := by decide +kernel
theorem dX3_search_5 : decode cX3_search 5 = .ok (.aload_n 0, 1) := by decide +kernel
theorem dX3_search_6 : decode cX3_search 6 = .ok (.iconst (-1), 1) := by decide +kernel
theorem dX3_search_7 : decode cX3_search 7 = .ok (.putfield 29, 3) := by decide +kernel
theorem dX3_search_10 : decode cX3_search 10 = .ok (.aload_n 0, 1) := by decide +kernel
theorem dX3_search_11 : decode cX3_search 11 = .ok (.getfield 11, 3) := by decide +kernel
theorem dX3_search_14 : decode cX3_search 14 = .ok (.iconst 0, 1) := by decide +kernel
theorem dX3_search_15 : decode cX3_search 15 = .ok (.aaload, 1) := by decide +kernel
theorem dX3_search_16 : decode cX3_search 16 = .ok (.aload_n 1, 1) := by decide +kernel
theorem dX3_search_17 : decode cX3_search 17 = .ok (.invokevirtual 32, 3) := by decide +kernel
theorem dX3_search_20 : decode cX3_search 20 = .ok (.aload_n 0, 1) := by decide +kernel
theorem dX3_search_21 : decode cX3_search 21 = .ok (.iconst 0, 1) := by decide +kernel
theorem dX3_search_22 : decode cX3_search 22 = .ok (.iload_n 3, 1) := by decide +kernel
theorem dX3_search_23 : decode cX3_search 23 = .ok (.iload_n 2, 1) := by decide +kernel
theorem dX3_search_24 : decode cX3_search 24 = .ok (.invokestatic 36, 3) := by decide +kernel
theorem dX3_search_27 : decode cX3_search 27 = .ok (.return_, 1) := by decide +kernel
theorem dX3_walk_0 : decode cX3_walk 0 = .ok (.iload_n 1, 1) := by decide +kernel
theorem dX3_walk_1 : decode cX3_walk 1 = .ok (.iload_n 2, 1) := by decide +kernel
theorem dX3_walk_2 : decode cX3_walk 2 = .ok (.if_icmp .ge 9, 3) := by decide +kernel
theorem dX3_walk_5 : decode cX3_walk 5 = .ok (.iload_n 1, 1) := by decide +kernel
theorem dX3_walk_6 : decode cX3_walk 6 = .ok (.bipush 7, 2) := by decide +kernel
theorem dX3_walk_8 : decode cX3_walk 8 = .ok (.if_icmp .lt 14, 3) := by decide +kernel
theorem dX3_walk_11 : decode cX3_walk 11 = .ok (.aload_n 0, 1) := by decide +kernel
theorem dX3_walk_12 : decode cX3_walk 12 = .ok (.aload_n 0, 1) := by decide +kernel
theorem dX3_walk_13 : decode cX3_walk 13 = .ok (.getfield 11, 3) := by decide +kernel
theorem dX3_walk_16 : decode cX3_walk 16 = .ok (.iload_n 1, 1) := by decide +kernel
theorem dX3_walk_17 : decode cX3_walk 17 = .ok (.aaload, 1) := by decide +kernel
theorem dX3_walk_18 : decode cX3_walk 18 = .ok (.invokevirtual 40, 3) := by decide +kernel
theorem dX3_walk_21 : decode cX3_walk 21 = .ok (.return_, 1) := by decide +kernel
theorem dX3_walk_22 : decode cX3_walk 22 = .ok (.aload_n 0, 1) := by decide +kernel
theorem dX3_walk_23 : decode cX3_walk 23 = .ok (.getfield 11, 3) := by decide +kernel
theorem dX3_walk_26 : decode cX3_walk 26 = .ok (.iload_n 1, 1) := by decide +kernel
theorem dX3_walk_27 : decode cX3_walk 27 = .ok (.aaload, 1) := by decide +kernel
theorem dX3_walk_28 : decode cX3_walk 28 = .ok (.astore 4, 2) := by decide +kernel
theorem dX3_walk_30 : decode cX3_walk 30 = .ok (.aload_n 0, 1) := by decide +kernel
theorem dX3_walk_31 : decode cX3_walk 31 = .ok (.getfield 11, 3) := by decide +kernel
theorem dX3_walk_34 : decode cX3_walk 34 = .ok (.iload_n 1, 1) := by decide +kernel
theorem dX3_walk_35 : decode cX3_walk 35 = .ok (.iconst 1, 1) := by decide +kernel
theorem dX3_walk_36 : decode cX3_walk 36 = .ok (.iadd, 1) := by decide +kernel
theorem dX3_walk_37 : decode cX3_walk 37 = .ok (.aaload, 1) := by decide +kernel
theorem dX3_walk_38 : decode cX3_walk 38 = .ok (.astore 5, 2) := by decide +kernel
theorem dX3_walk_40 : decode cX3_walk 40 = .ok (.iconst 0, 1) := by decide +kernel
theorem dX3_walk_41 : decode cX3_walk 41 = .ok (.istore 6, 2) := by decide +kernel
theorem dX3_walk_43 : decode cX3_walk 43 = .ok (.iload 6, 2) := by decide +kernel
theorem dX3_walk_45 : decode cX3_walk 45 = .ok (.iconst 2, 1) := by decide +kernel
theorem dX3_walk_46 : decode cX3_walk 46 = .ok (.if_icmp .gt 86, 3) := by decide +kernel
theorem dX3_walk_49 : decode cX3_walk 49 = .ok (.iload_n 3, 1) := by decide +kernel
theorem dX3_walk_50 : decode cX3_walk 50 = .ok (.iload 6, 2) := by decide +kernel
theorem dX3_walk_52 : decode cX3_walk 52 = .ok (.iadd, 1) := by decide +kernel
theorem dX3_walk_53 : decode cX3_walk 53 = .ok (.iconst 1, 1) := by decide +kernel
theorem dX3_walk_54 : decode cX3_walk 54 = .ok (.isub, 1) := by decide +kernel
theorem dX3_walk_55 : decode cX3_walk 55 = .ok (.istore 7, 2) := by decide +kernel
theorem dX3_walk_57 : decode cX3_walk 57 = .ok (.iload 7, 2) := by decide +kernel
theorem dX3_walk_59 : decode cX3_walk 59 = .ok (.iconst 0, 1) := by decide +kernel
theorem dX3_walk_60 : decode cX3_walk 60 = .ok (.aload 4, 2) := by decide +kernel
theorem dX3_walk_62 : decode cX3_walk 62 = .ok (.getfield 43, 3) := by decide +kernel
theorem dX3_walk_65 : decode cX3_walk 65 = .ok (.iconst 1, 1) := by decide +kernel
theorem dX3_walk_66 : decode cX3_walk 66 = .ok (.isub, 1) := by decide +kernel
theorem dX3_walk_67 : decode cX3_walk 67 = .ok (.invokestatic 46, 3) := by decide +kernel
theorem dX3_walk_70 : decode cX3_walk 70 = .ok (.ifCond .eq 56, 3) := by decide +kernel
theorem dX3_walk_73 : decode cX3_walk 73 = .ok (.aload 5, 2) := by decide +kernel
theorem dX3_walk_75 : decode cX3_walk 75 = .ok (.aload 4, 2) := by decide +kernel
theorem dX3_walk_77 : decode cX3_walk 77 = .ok (.invokevirtual 32, 3) := by decide +kernel
theorem dX3_walk_80 : decode cX3_walk 80 = .ok (.aload 5, 2) := by decide +kernel
theorem dX3_walk_82 : decode cX3_walk 82 = .ok (.getfield 50, 3) := by decide +kernel
theorem dX3_walk_85 : decode cX3_walk 85 = .ok (.iload 7, 2) := by decide +kernel
theorem dX3_walk_87 : decode cX3_walk 87 = .ok (.iaload, 1) := by decide +kernel
theorem dX3_walk_88 : decode cX3_walk 88 = .ok (.ifCond .le 15, 3) := by decide +kernel
theorem dX3_walk_91 : decode cX3_walk 91 = .ok (.aload 5, 2) := by decide +kernel
theorem dX3_walk_93 : decode cX3_walk 93 = .ok (.iload 7, 2) := by decide +kernel
theorem dX3_walk_95 : decode cX3_walk 95 = .ok (.aload 5, 2) := by decide +kernel
theorem dX3_walk_97 : decode cX3_walk 97 = .ok (.getfield 53, 3) := by decide +kernel
theorem dX3_walk_100 : decode cX3_walk 100 = .ok (.invokevirtual 56, 3) := by decide +kernel
theorem dX3_walk_103 : decode cX3_walk 103 = .ok (.aload 5, 2) := by decide +kernel
theorem dX3_walk_105 : decode cX3_walk 105 = .ok (.invokevirtual 60, 3) := by decide +kernel
theorem dX3_walk_108 : decode cX3_walk 108 = .ok (.aload_n 0, 1) := by decide +kernel
theorem dX3_walk_109 : decode cX3_walk 109 = .ok (.getfield 17, 3) := by decide +kernel
theorem dX3_walk_112 : decode cX3_walk 112 = .ok (.iload_n 1, 1) := by decide +kernel
theorem dX3_walk_113 : decode cX3_walk 113 = .ok (.iload 6, 2) := by decide +kernel
theorem dX3_walk_115 : decode cX3_walk 115 = .ok (.iastore, 1) := by decide +kernel
theorem dX3_walk_116 : decode cX3_walk 116 = .ok (.aload_n 0, 1) := by decide +kernel
theorem dX3_walk_117 : decode cX3_walk 117 = .ok (.iload_n 1, 1) := by decide +kernel
theorem dX3_walk_118 : decode cX3_walk 118 = .ok (.iconst 1, 1) := by decide +kernel
theorem dX3_walk_119 : decode cX3_walk 119 = .ok (.iadd, 1) := by decide +kernel
theorem dX3_walk_120 : decode cX3_walk 120 = .ok (.iload_n 2, 1) := by decide +kernel
theorem dX3_walk_121 : decode cX3_walk 121 = .ok (.iload 7, 2) := by decide +kernel
theorem dX3_walk_123 : decode cX3_walk 123 = .ok (.invokestatic 36, 3) := by decide +kernel
theorem dX3_walk_126 : decode cX3_walk 126 = .ok (.iinc 6 1, 3) := by decide +kernel
theorem dX3_walk_129 : decode cX3_walk 129 = .ok (.goto (-86), 3) := by decide +kernel
theorem dX3_walk_132 : decode cX3_walk 132 = .ok (.return_, 1) := by decide +kernel
theorem dX3_weigh_0 : decode cX3_weigh 0 = .ok (.aload_n 1, 1) := by decide +kernel
theorem dX3_weigh_1 : decode cX3_weigh 1 = .ok (.invokevirtual 63, 3) := by decide +kernel
theorem dX3_weigh_4 : decode cX3_weigh 4 = .ok (.invokestatic 67, 3) := by decide +kernel
theorem dX3_weigh_7 : decode cX3_weigh 7 = .ok (.istore_n 2, 1) := by decide +kernel
theorem dX3_weigh_8 : decode cX3_weigh 8 = .ok (.aload_n 1, 1) := by decide +kernel
theorem dX3_weigh_9 : decode cX3_weigh 9 = .ok (.invokestatic 73, 3) := by decide +kernel
theorem dX3_weigh_12 : decode cX3_weigh 12 = .ok (.istore_n 3, 1) := by decide +kernel
theorem dX3_weigh_13 : decode cX3_weigh 13 = .ok (.iload_n 2, 1) := by decide +kernel
theorem dX3_weigh_14 : decode cX3_weigh 14 = .ok (.aload_n 0, 1) := by decide +kernel
theorem dX3_weigh_15 : decode cX3_weigh 15 = .ok (.getfield 25, 3) := by decide +kernel
theorem dX3_weigh_18 : decode cX3_weigh 18 = .ok (.if_icmp .gt 19, 3) := by decide +kernel
theorem dX3_weigh_21 : decode cX3_weigh 21 = .ok (.iload_n 2, 1) := by decide +kernel
theorem dX3_weigh_22 : decode cX3_weigh 22 = .ok (.aload_n 0, 1) := by decide +kernel
theorem dX3_weigh_23 : decode cX3_weigh 23 = .ok (.getfield 25, 3) := by decide +kernel
theorem dX3_weigh_26 : decode cX3_weigh 26 = .ok (.if_icmp .ne 36, 3) := by decide +kernel
theorem dX3_weigh_29 : decode cX3_weigh 29 = .ok (.iload_n 3, 1) := by decide +kernel
theorem dX3_weigh_30 : decode cX3_weigh 30 = .ok (.aload_n 0, 1) := by decide +kernel
theorem dX3_weigh_31 : decode cX3_weigh 31 = .ok (.getfield 29, 3) := by decide +kernel
theorem dX3_weigh_34 : decode cX3_weigh 34 = .ok (.if_icmp .le 28, 3) := by decide +kernel
theorem dX3_weigh_37 : decode cX3_weigh 37 = .ok (.aload_n 0, 1) := by decide +kernel
theorem dX3_weigh_38 : decode cX3_weigh 38 = .ok (.iload_n 2, 1) := by decide +kernel
theorem dX3_weigh_39 : decode cX3_weigh 39 = .ok (.putfield 25, 3) := by decide +kernel
theorem dX3_weigh_42 : decode cX3_weigh 42 = .ok (.aload_n 0, 1) := by decide +kernel
theorem dX3_weigh_43 : decode cX3_weigh 43 = .ok (.iload_n 3, 1) := by decide +kernel
theorem dX3_weigh_44 : decode cX3_weigh 44 = .ok (.putfield 29, 3) := by decide +kernel
theorem dX3_weigh_47 : decode cX3_weigh 47 = .ok (.aload_n 0, 1) := by decide +kernel
theorem dX3_weigh_48 : decode cX3_weigh 48 = .ok (.getfield 17, 3) := by decide +kernel
theorem dX3_weigh_51 : decode cX3_weigh 51 = .ok (.iconst 0, 1) := by decide +kernel
theorem dX3_weigh_52 : decode cX3_weigh 52 = .ok (.aload_n 0, 1) := by decide +kernel
theorem dX3_weigh_53 : decode cX3_weigh 53 = .ok (.getfield 21, 3) := by decide +kernel
theorem dX3_weigh_56 : decode cX3_weigh 56 = .ok (.iconst 0, 1) := by decide +kernel
theorem dX3_weigh_57 : decode cX3_weigh 57 = .ok (.bipush 7, 2) := by decide +kernel
theorem dX3_weigh_59 : decode cX3_weigh 59 = .ok (.invokestatic 77, 3) := by decide +kernel
theorem dX3_weigh_62 : decode cX3_weigh 62 = .ok (.return_, 1) := by decide +kernel
theorem dX3_leastSpin_0 : decode cX3_leastSpin 0 = .ok (.iconst 0, 1) := by decide +kernel
theorem dX3_leastSpin_1 : decode cX3_leastSpin 1 = .ok (.istore_n 1, 1) := by decide +kernel
theorem dX3_leastSpin_2 : decode cX3_leastSpin 2 = .ok (.iconst 0, 1) := by decide +kernel
theorem dX3_leastSpin_3 : decode cX3_leastSpin 3 = .ok (.istore_n 2, 1) := by decide +kernel
theorem dX3_leastSpin_4 : decode cX3_leastSpin 4 = .ok (.iload_n 2, 1) := by decide +kernel
theorem dX3_leastSpin_5 : decode cX3_leastSpin 5 = .ok (.aload_n 0, 1) := by decide +kernel
theorem dX3_leastSpin_6 : decode cX3_leastSpin 6 = .ok (.getfield 43, 3) := by decide +kernel
theorem dX3_leastSpin_9 : decode cX3_leastSpin 9 = .ok (.if_icmp .ge 39, 3) := by decide +kernel
theorem dX3_leastSpin_12 : decode cX3_leastSpin 12 = .ok (.aload_n 0, 1) := by decide +kernel
theorem dX3_leastSpin_13 : decode cX3_leastSpin 13 = .ok (.getfield 50, 3) := by decide +kernel
theorem dX3_leastSpin_16 : decode cX3_leastSpin 16 = .ok (.iload_n 2, 1) := by decide +kernel
theorem dX3_leastSpin_17 : decode cX3_leastSpin 17 = .ok (.iaload, 1) := by decide +kernel
theorem dX3_leastSpin_18 : decode cX3_leastSpin 18 = .ok (.ifCond .le 24, 3) := by decide +kernel
theorem dX3_leastSpin_21 : decode cX3_leastSpin 21 = .ok (.iload_n 1, 1) := by decide +kernel
theorem dX3_leastSpin_22 : decode cX3_leastSpin 22 = .ok (.ifCond .eq 13, 3) := by decide +kernel
theorem dX3_leastSpin_25 : decode cX3_leastSpin 25 = .ok (.aload_n 0, 1) := by decide +kernel
theorem dX3_leastSpin_26 : decode cX3_leastSpin 26 = .ok (.getfield 50, 3) := by decide +kernel
theorem dX3_leastSpin_29 : decode cX3_leastSpin 29 = .ok (.iload_n 2, 1) := by decide +kernel
theorem dX3_leastSpin_30 : decode cX3_leastSpin 30 = .ok (.iaload, 1) := by decide +kernel
theorem dX3_leastSpin_31 : decode cX3_leastSpin 31 = .ok (.iload_n 1, 1) := by decide +kernel
theorem dX3_leastSpin_32 : decode cX3_leastSpin 32 = .ok (.if_icmp .ge 10, 3) := by decide +kernel
theorem dX3_leastSpin_35 : decode cX3_leastSpin 35 = .ok (.aload_n 0, 1) := by decide +kernel
theorem dX3_leastSpin_36 : decode cX3_leastSpin 36 = .ok (.getfield 50, 3) := by decide +kernel
theorem dX3_leastSpin_39 : decode cX3_leastSpin 39 = .ok (.iload_n 2, 1) := by decide +kernel
theorem dX3_leastSpin_40 : decode cX3_leastSpin 40 = .ok (.iaload, 1) := by decide +kernel
theorem dX3_leastSpin_41 : decode cX3_leastSpin 41 = .ok (.istore_n 1, 1) := by decide +kernel
theorem dX3_leastSpin_42 : decode cX3_leastSpin 42 = .ok (.iinc 2 1, 3) := by decide +kernel
theorem dX3_leastSpin_45 : decode cX3_leastSpin 45 = .ok (.goto (-41), 3) := by decide +kernel
theorem dX3_leastSpin_48 : decode cX3_leastSpin 48 = .ok (.iload_n 1, 1) := by decide +kernel
theorem dX3_leastSpin_49 : decode cX3_leastSpin 49 = .ok (.ireturn, 1) := by decide +kernel
theorem dX4_init_0 : decode cX4_init 0 = .ok (.aload_n 0, 1) := by decide +kernel
theorem dX4_init_1 : decode cX4_init 1 = .ok (.invokespecial 3, 3) := by decide +kernel
theorem dX4_init_4 : decode cX4_init 4 = .ok (.aload_n 0, 1) := by decide +kernel
theorem dX4_init_5 : decode cX4_init 5 = .ok (.bipush 40, 2) := by decide +kernel
theorem dX4_init_7 : decode cX4_init 7 = .ok (.newarray .int, 2) := by decide +kernel
theorem dX4_init_9 : decode cX4_init 9 = .ok (.putfield 9, 3) := by decide +kernel
theorem dX4_init_12 : decode cX4_init 12 = .ok (.aload_n 0, 1) := by decide +kernel
theorem dX4_init_13 : decode cX4_init 13 = .ok (.iconst 1, 1) := by decide +kernel
theorem dX4_init_14 : decode cX4_init 14 = .ok (.putfield 15, 3) := by decide +kernel
theorem dX4_init_17 : decode cX4_init 17 = .ok (.return_, 1) := by decide +kernel
theorem dX4_make_0 : decode cX4_make 0 = .ok (.aload_n 0, 1) := by decide +kernel
theorem dX4_make_1 : decode cX4_make 1 = .ok (.iconst 0, 1) := by decide +kernel
theorem dX4_make_2 : decode cX4_make 2 = .ok (.putfield 15, 3) := by decide +kernel
theorem dX4_make_5 : decode cX4_make 5 = .ok (.aload_n 0, 1) := by decide +kernel
theorem dX4_make_6 : decode cX4_make 6 = .ok (.iload_n 1, 1) := by decide +kernel
theorem dX4_make_7 : decode cX4_make 7 = .ok (.putfield 19, 3) := by decide +kernel
theorem dX4_make_10 : decode cX4_make 10 = .ok (.aload_n 0, 1) := by decide +kernel
theorem dX4_make_11 : decode cX4_make 11 = .ok (.iload_n 2, 1) := by decide +kernel
theorem dX4_make_12 : decode cX4_make 12 = .ok (.putfield 23, 3) := by decide +kernel
theorem dX4_make_15 : decode cX4_make 15 = .ok (.iconst 0, 1) := by decide +kernel
theorem dX4_make_16 : decode cX4_make 16 = .ok (.istore_n 3, 1) := by decide +kernel
theorem dX4_make_17 : decode cX4_make 17 = .ok (.iload_n 3, 1) := by decide +kernel
theorem dX4_make_18 : decode cX4_make 18 = .ok (.bipush 40, 2) := by decide +kernel
theorem dX4_make_20 : decode cX4_make 20 = .ok (.if_icmp .ge 16, 3) := by decide +kernel
theorem dX4_make_23 : decode cX4_make 23 = .ok (.aload_n 0, 1) := by decide +kernel
theorem dX4_make_24 : decode cX4_make 24 = .ok (.getfield 9, 3) := by decide +kernel
theorem dX4_make_27 : decode cX4_make 27 = .ok (.iload_n 3, 1) := by decide +kernel
theorem dX4_make_28 : decode cX4_make 28 = .ok (.iconst 0, 1) := by decide +kernel
theorem dX4_make_29 : decode cX4_make 29 = .ok (.iastore, 1) := by decide +kernel
theorem dX4_make_30 : decode cX4_make 30 = .ok (.iinc 3 1, 3) := by decide +kernel
theorem dX4_make_33 : decode cX4_make 33 = .ok (.goto (-16), 3) := by decide +kernel
theorem dX4_make_36 : decode cX4_make 36 = .ok (.return_, 1) := by decide +kernel
theorem dX4_put_0 : decode cX4_put 0 = .ok (.aload_n 0, 1) := by decide +kernel
theorem dX4_put_1 : decode cX4_put 1 = .ok (.getfield 19, 3) := by decide +kernel
theorem dX4_put_4 : decode cX4_put 4 = .ok (.ifCond .ne 14, 3) := by decide +kernel
theorem dX4_put_7 : decode cX4_put 7 = .ok (.aload_n 0, 1) := by decide +kernel
theorem dX4_put_8 : decode cX4_put 8 = .ok (.getfield 9, 3) := by decide +kernel
theorem dX4_put_11 : decode cX4_put 11 = .ok (.iload_n 1, 1) := by decide +kernel
theorem dX4_put_12 : decode cX4_put 12 = .ok (.iload_n 2, 1) := by decide +kernel
theorem dX4_put_13 : decode cX4_put 13 = .ok (.i2b, 1) := by decide +kernel
theorem dX4_put_14 : decode cX4_put 14 = .ok (.iastore, 1) := by decide +kernel
theorem dX4_put_15 : decode cX4_put 15 = .ok (.goto 23, 3) := by decide +kernel
theorem dX4_put_18 : decode cX4_put 18 = .ok (.aload_n 0, 1) := by decide +kernel
theorem dX4_put_19 : decode cX4_put 19 = .ok (.getfield 9, 3) := by decide +kernel
theorem dX4_put_22 : decode cX4_put 22 = .ok (.iload_n 1, 1) := by decide +kernel
theorem dX4_put_23 : decode cX4_put 23 = .ok (.aload_n 0, 1) := by decide +kernel
theorem dX4_put_24 : decode cX4_put 24 = .ok (.getfield 19, 3) := by decide +kernel
theorem dX4_put_27 : decode cX4_put 27 = .ok (.iconst 1, 1) := by decide +kernel
theorem dX4_put_28 : decode cX4_put 28 = .ok (.if_icmp .ne 8, 3) := by decide +kernel
theorem dX4_put_31 : decode cX4_put 31 = .ok (.iload_n 2, 1) := by decide +kernel
theorem dX4_put_32 : decode cX4_put 32 = .ok (.i2s, 1) := by decide +kernel
theorem dX4_put_33 : decode cX4_put 33 = .ok (.goto 4, 3) := by decide +kernel
theorem dX4_put_36 : decode cX4_put 36 = .ok (.iload_n 2, 1) := by decide +kernel
theorem dX4_put_37 : decode cX4_put 37 = .ok (.iastore, 1) := by decide +kernel
theorem dX4_put_38 : decode cX4_put 38 = .ok (.aload_n 0, 1) := by decide +kernel
theorem dX4_put_39 : decode cX4_put 39 = .ok (.getfield 9, 3) := by decide +kernel
theorem dX4_put_42 : decode cX4_put 42 = .ok (.iload_n 1, 1) := by decide +kernel
theorem dX4_put_43 : decode cX4_put 43 = .ok (.iaload, 1) := by decide +kernel
theorem dX4_put_44 : decode cX4_put 44 = .ok (.ireturn, 1) := by decide +kernel
theorem dX4_spanFinding_0 : decode cX4_spanFinding 0 = .ok (.aload_n 0, 1) := by decide +kernel
theorem dX4_spanFinding_1 : decode cX4_spanFinding 1 = .ok (.getfield 15, 3) := by decide +kernel
theorem dX4_spanFinding_4 : decode cX4_spanFinding 4 = .ok (.ifCond .eq 5, 3) := by decide +kernel
theorem dX4_spanFinding_7 : decode cX4_spanFinding 7 = .ok (.iconst 1, 1) := by decide +kernel
theorem dX4_spanFinding_8 : decode cX4_spanFinding 8 = .ok (.ireturn, 1) := by decide +kernel
theorem dX4_spanFinding_9 : decode cX4_spanFinding 9 = .ok (.iload_n 1, 1) := by decide +kernel
theorem dX4_spanFinding_10 : decode cX4_spanFinding 10 = .ok (.ifCond .lt 25, 3) := by decide +kernel
theorem dX4_spanFinding_13 : decode cX4_spanFinding 13 = .ok (.iload_n 2, 1) := by decide +kernel
theorem dX4_spanFinding_14 : decode cX4_spanFinding 14 = .ok (.ifCond .lt 21, 3) := by decide +kernel
theorem dX4_spanFinding_17 : decode cX4_spanFinding 17 = .ok (.iload_n 1, 1) := by decide +kernel
theorem dX4_spanFinding_18 : decode cX4_spanFinding 18 = .ok (.aload_n 0, 1) := by decide +kernel
theorem dX4_spanFinding_19 : decode cX4_spanFinding 19 = .ok (.getfield 23, 3) := by decide +kernel
theorem dX4_spanFinding_22 : decode cX4_spanFinding 22 = .ok (.if_icmp .gt 13, 3) := by decide +kernel
theorem dX4_spanFinding_25 : decode cX4_spanFinding 25 = .ok (.iload_n 2, 1) := by decide +kernel
theorem dX4_spanFinding_26 : decode cX4_spanFinding 26 = .ok (.aload_n 0, 1) := by decide +kernel
theorem dX4_spanFinding_27 : decode cX4_spanFinding 27 = .ok (.getfield 23, 3) := by decide +kernel
theorem dX4_spanFinding_30 : decode cX4_spanFinding 30 = .ok (.iload_n 1, 1) := by decide +kernel
theorem dX4_spanFinding_31 : decode cX4_spanFinding 31 = .ok (.isub, 1) := by decide +kernel
theorem dX4_spanFinding_32 : decode cX4_spanFinding 32 = .ok (.if_icmp .le 7, 3) := by decide +kernel
theorem dX4_spanFinding_35 : decode cX4_spanFinding 35 = .ok (.iconst 2, 1) := by decide +kernel
theorem dX4_spanFinding_36 : decode cX4_spanFinding 36 = .ok (.goto 4, 3) := by decide +kernel
theorem dX4_spanFinding_39 : decode cX4_spanFinding 39 = .ok (.iconst 0, 1) := by decide +kernel
theorem dX4_spanFinding_40 : decode cX4_spanFinding 40 = .ok (.ireturn, 1) := by decide +kernel
theorem dX5_init_0 : decode cX5_init 0 = .ok (.aload_n 0, 1) := by decide +kernel
theorem dX5_init_1 : decode cX5_init 1 = .ok (.invokespecial 3, 3) := by decide +kernel
theorem dX5_init_4 : decode cX5_init 4 = .ok (.aload_n 0, 1) := by decide +kernel
theorem dX5_init_5 : decode cX5_init 5 = .ok (.bipush 8, 2) := by decide +kernel
theorem dX5_init_7 : decode cX5_init 7 = .ok (.newarray .int, 2) := by decide +kernel
theorem dX5_init_9 : decode cX5_init 9 = .ok (.putfield 9, 3) := by decide +kernel
theorem dX5_init_12 : decode cX5_init 12 = .ok (.aload_n 0, 1) := by decide +kernel
theorem dX5_init_13 : decode cX5_init 13 = .ok (.bipush 8, 2) := by decide +kernel
theorem dX5_init_15 : decode cX5_init 15 = .ok (.newarray .int, 2) := by decide +kernel
theorem dX5_init_17 : decode cX5_init 17 = .ok (.putfield 15, 3) := by decide +kernel
theorem dX5_init_20 : decode cX5_init 20 = .ok (.aload_n 0, 1) := by decide +kernel
theorem dX5_init_21 : decode cX5_init 21 = .ok (.bipush 8, 2) := by decide +kernel
theorem dX5_init_23 : decode cX5_init 23 = .ok (.newarray .int, 2) := by decide +kernel
theorem dX5_init_25 : decode cX5_init 25 = .ok (.putfield 18, 3) := by decide +kernel
theorem dX5_init_28 : decode cX5_init 28 = .ok (.return_, 1) := by decide +kernel
theorem dX5_add_0 : decode cX5_add 0 = .ok (.aload_n 0, 1) := by decide +kernel
theorem dX5_add_1 : decode cX5_add 1 = .ok (.getfield 21, 3) := by decide +kernel
theorem dX5_add_4 : decode cX5_add 4 = .ok (.bipush 8, 2) := by decide +kernel
theorem dX5_add_6 : decode cX5_add 6 = .ok (.if_icmp .ge 43, 3) := by decide +kernel
theorem dX5_add_9 : decode cX5_add 9 = .ok (.aload_n 0, 1) := by decide +kernel
theorem dX5_add_10 : decode cX5_add 10 = .ok (.getfield 9, 3) := by decide +kernel
theorem dX5_add_13 : decode cX5_add 13 = .ok (.aload_n 0, 1) := by decide +kernel
theorem dX5_add_14 : decode cX5_add 14 = .ok (.getfield 21, 3) := by decide +kernel
theorem dX5_add_17 : decode cX5_add 17 = .ok (.iload_n 1, 1) := by decide +kernel
theorem dX5_add_18 : decode cX5_add 18 = .ok (.iastore, 1) := by decide +kernel
theorem dX5_add_19 : decode cX5_add 19 = .ok (.aload_n 0, 1) := by decide +kernel
theorem dX5_add_20 : decode cX5_add 20 = .ok (.getfield 18, 3) := by decide +kernel
theorem dX5_add_23 : decode cX5_add 23 = .ok (.aload_n 0, 1) := by decide +kernel
theorem dX5_add_24 : decode cX5_add 24 = .ok (.getfield 21, 3) := by decide +kernel
theorem dX5_add_27 : decode cX5_add 27 = .ok (.iload_n 2, 1) := by decide +kernel
theorem dX5_add_28 : decode cX5_add 28 = .ok (.iastore, 1) := by decide +kernel
theorem dX5_add_29 : decode cX5_add 29 = .ok (.aload_n 0, 1) := by decide +kernel
theorem dX5_add_30 : decode cX5_add 30 = .ok (.getfield 15, 3) := by decide +kernel
theorem dX5_add_33 : decode cX5_add 33 = .ok (.aload_n 0, 1) := by decide +kernel
theorem dX5_add_34 : decode cX5_add 34 = .ok (.getfield 21, 3) := by decide +kernel
theorem dX5_add_37 : decode cX5_add 37 = .ok (.iload_n 3, 1) := by decide +kernel
theorem dX5_add_38 : decode cX5_add 38 = .ok (.iastore, 1) := by decide +kernel
theorem dX5_add_39 : decode cX5_add 39 = .ok (.aload_n 0, 1) := by decide +kernel
theorem dX5_add_40 : decode cX5_add 40 = .ok (.dup, 1) := by decide +kernel
theorem dX5_add_41 : decode cX5_add 41 = .ok (.getfield 21, 3) := by decide +kernel
theorem dX5_add_44 : decode cX5_add 44 = .ok (.iconst 1, 1) := by decide +kernel
theorem dX5_add_45 : decode cX5_add 45 = .ok (.iadd, 1) := by decide +kernel
theorem dX5_add_46 : decode cX5_add 46 = .ok (.putfield 21, 3) := by decide +kernel
theorem dX5_add_49 : decode cX5_add 49 = .ok (.return_, 1) := by decide +kernel
theorem dX5_take_0 : decode cX5_take 0 = .ok (.aload_n 1, 1) := by decide +kernel
theorem dX5_take_1 : decode cX5_take 1 = .ok (.getfield 9, 3) := by decide +kernel
theorem dX5_take_4 : decode cX5_take 4 = .ok (.iconst 0, 1) := by decide +kernel
theorem dX5_take_5 : decode cX5_take 5 = .ok (.aload_n 0, 1) := by decide +kernel
theorem dX5_take_6 : decode cX5_take 6 = .ok (.getfield 9, 3) := by decide +kernel
theorem dX5_take_9 : decode cX5_take 9 = .ok (.iconst 0, 1) := by decide +kernel
theorem dX5_take_10 : decode cX5_take 10 = .ok (.bipush 8, 2) := by decide +kernel
theorem dX5_take_12 : decode cX5_take 12 = .ok (.invokestatic 25, 3) := by decide +kernel
theorem dX5_take_15 : decode cX5_take 15 = .ok (.aload_n 1, 1) := by decide +kernel
theorem dX5_take_16 : decode cX5_take 16 = .ok (.getfield 15, 3) := by decide +kernel
theorem dX5_take_19 : decode cX5_take 19 = .ok (.iconst 0, 1) := by decide +kernel
theorem dX5_take_20 : decode cX5_take 20 = .ok (.aload_n 0, 1) := by decide +kernel
theorem dX5_take_21 : decode cX5_take 21 = .ok (.getfield 15, 3) := by decide +kernel
theorem dX5_take_24 : decode cX5_take 24 = .ok (.iconst 0, 1) := by decide +kernel
theorem dX5_take_25 : decode cX5_take 25 = .ok (.bipush 8, 2) := by decide +kernel
theorem dX5_take_27 : decode cX5_take 27 = .ok (.invokestatic 25, 3) := by decide +kernel
theorem dX5_take_30 : decode cX5_take 30 = .ok (.aload_n 1, 1) := by decide +kernel
theorem dX5_take_31 : decode cX5_take 31 = .ok (.getfield 18, 3) := by decide +kernel
theorem dX5_take_34 : decode cX5_take 34 = .ok (.iconst 0, 1) := by decide +kernel
theorem dX5_take_35 : decode cX5_take 35 = .ok (.aload_n 0, 1) := by decide +kernel
theorem dX5_take_36 : decode cX5_take 36 = .ok (.getfield 18, 3) := by decide +kernel
theorem dX5_take_39 : decode cX5_take 39 = .ok (.iconst 0, 1) := by decide +kernel
theorem dX5_take_40 : decode cX5_take 40 = .ok (.bipush 8, 2) := by decide +kernel
theorem dX5_take_42 : decode cX5_take 42 = .ok (.invokestatic 25, 3) := by decide +kernel
theorem dX5_take_45 : decode cX5_take 45 = .ok (.aload_n 0, 1) := by decide +kernel
theorem dX5_take_46 : decode cX5_take 46 = .ok (.aload_n 1, 1) := by decide +kernel
theorem dX5_take_47 : decode cX5_take 47 = .ok (.getfield 21, 3) := by decide +kernel
theorem dX5_take_50 : decode cX5_take 50 = .ok (.putfield 21, 3) := by decide +kernel
theorem dX5_take_53 : decode cX5_take 53 = .ok (.aload_n 0, 1) := by decide +kernel
theorem dX5_take_54 : decode cX5_take 54 = .ok (.aload_n 1, 1) := by decide +kernel
theorem dX5_take_55 : decode cX5_take 55 = .ok (.getfield 31, 3) := by decide +kernel
theorem dX5_take_58 : decode cX5_take 58 = .ok (.putfield 31, 3) := by decide +kernel
theorem dX5_take_61 : decode cX5_take 61 = .ok (.aload_n 0, 1) := by decide +kernel
theorem dX5_take_62 : decode cX5_take 62 = .ok (.aload_n 1, 1) := by decide +kernel
theorem dX5_take_63 : decode cX5_take 63 = .ok (.getfield 34, 3) := by decide +kernel
theorem dX5_take_66 : decode cX5_take 66 = .ok (.putfield 34, 3) := by decide +kernel
theorem dX5_take_69 : decode cX5_take 69 = .ok (.aload_n 0, 1) := by decide +kernel
theorem dX5_take_70 : decode cX5_take 70 = .ok (.aload_n 1, 1) := by decide +kernel
theorem dX5_take_71 : decode cX5_take 71 = .ok (.getfield 37, 3) := by decide +kernel
theorem dX5_take_74 : decode cX5_take 74 = .ok (.putfield 37, 3) := by decide +kernel
theorem dX5_take_77 : decode cX5_take 77 = .ok (.aload_n 0, 1) := by decide +kernel
theorem dX5_take_78 : decode cX5_take 78 = .ok (.aload_n 1, 1) := by decide +kernel
theorem dX5_take_79 : decode cX5_take 79 = .ok (.getfield 40, 3) := by decide +kernel
theorem dX5_take_82 : decode cX5_take 82 = .ok (.putfield 40, 3) := by decide +kernel
theorem dX5_take_85 : decode cX5_take 85 = .ok (.return_, 1) := by decide +kernel
theorem dX5_raise_0 : decode cX5_raise 0 = .ok (.aload_n 0, 1) := by decide +kernel
theorem dX5_raise_1 : decode cX5_raise 1 = .ok (.getfield 18, 3) := by decide +kernel
theorem dX5_raise_4 : decode cX5_raise 4 = .ok (.iload_n 1, 1) := by decide +kernel
theorem dX5_raise_5 : decode cX5_raise 5 = .ok (.bipush 99, 2) := by decide +kernel
theorem dX5_raise_7 : decode cX5_raise 7 = .ok (.aload_n 0, 1) := by decide +kernel
theorem dX5_raise_8 : decode cX5_raise 8 = .ok (.getfield 18, 3) := by decide +kernel
theorem dX5_raise_11 : decode cX5_raise 11 = .ok (.iload_n 1, 1) := by decide +kernel
theorem dX5_raise_12 : decode cX5_raise 12 = .ok (.iaload, 1) := by decide +kernel
theorem dX5_raise_13 : decode cX5_raise 13 = .ok (.iload_n 2, 1) := by decide +kernel
theorem dX5_raise_14 : decode cX5_raise 14 = .ok (.iadd, 1) := by decide +kernel
theorem dX5_raise_15 : decode cX5_raise 15 = .ok (.invokestatic 43, 3) := by decide +kernel
theorem dX5_raise_18 : decode cX5_raise 18 = .ok (.iastore, 1) := by decide +kernel
theorem dX5_raise_19 : decode cX5_raise 19 = .ok (.return_, 1) := by decide +kernel
theorem dX5_leans_0 : decode cX5_leans 0 = .ok (.aload_n 0, 1) := by decide +kernel
theorem dX5_leans_1 : decode cX5_leans 1 = .ok (.getfield 18, 3) := by decide +kernel
theorem dX5_leans_4 : decode cX5_leans 4 = .ok (.iload_n 1, 1) := by decide +kernel
theorem dX5_leans_5 : decode cX5_leans 5 = .ok (.iaload, 1) := by decide +kernel
theorem dX5_leans_6 : decode cX5_leans 6 = .ok (.ifCond .le 20, 3) := by decide +kernel
theorem dX5_leans_9 : decode cX5_leans 9 = .ok (.aload_n 0, 1) := by decide +kernel
theorem dX5_leans_10 : decode cX5_leans 10 = .ok (.getfield 18, 3) := by decide +kernel
theorem dX5_leans_13 : decode cX5_leans 13 = .ok (.iload_n 1, 1) := by decide +kernel
theorem dX5_leans_14 : decode cX5_leans 14 = .ok (.iaload, 1) := by decide +kernel
theorem dX5_leans_15 : decode cX5_leans 15 = .ok (.aload_n 0, 1) := by decide +kernel
theorem dX5_leans_16 : decode cX5_leans 16 = .ok (.getfield 34, 3) := by decide +kernel
theorem dX5_leans_19 : decode cX5_leans 19 = .ok (.if_icmp .ge 7, 3) := by decide +kernel
theorem dX5_leans_22 : decode cX5_leans 22 = .ok (.iconst 1, 1) := by decide +kernel
theorem dX5_leans_23 : decode cX5_leans 23 = .ok (.goto 4, 3) := by decide +kernel
theorem dX5_leans_26 : decode cX5_leans 26 = .ok (.iconst 0, 1) := by decide +kernel
theorem dX5_leans_27 : decode cX5_leans 27 = .ok (.ireturn, 1) := by decide +kernel
theorem dX5_wallsOf_0 : decode cX5_wallsOf 0 = .ok (.iload_n 1, 1) := by decide +kernel
theorem dX5_wallsOf_1 : decode cX5_wallsOf 1 = .ok (.ifCond .le 16, 3) := by decide +kernel
theorem dX5_wallsOf_4 : decode cX5_wallsOf 4 = .ok (.aload_n 0, 1) := by decide +kernel
theorem dX5_wallsOf_5 : decode cX5_wallsOf 5 = .ok (.getfield 40, 3) := by decide +kernel
theorem dX5_wallsOf_8 : decode cX5_wallsOf 8 = .ok (.iload_n 1, 1) := by decide +kernel
theorem dX5_wallsOf_9 : decode cX5_wallsOf 9 = .ok (.iconst 1, 1) := by decide +kernel
theorem dX5_wallsOf_10 : decode cX5_wallsOf 10 = .ok (.isub, 1) := by decide +kernel
theorem dX5_wallsOf_11 : decode cX5_wallsOf 11 = .ok (.ishr, 1) := by decide +kernel
theorem dX5_wallsOf_12 : decode cX5_wallsOf 12 = .ok (.iconst 1, 1) := by decide +kernel
theorem dX5_wallsOf_13 : decode cX5_wallsOf 13 = .ok (.iand, 1) := by decide +kernel
theorem dX5_wallsOf_14 : decode cX5_wallsOf 14 = .ok (.goto 4, 3) := by decide +kernel
theorem dX5_wallsOf_17 : decode cX5_wallsOf 17 = .ok (.iconst 0, 1) := by decide +kernel
theorem dX5_wallsOf_18 : decode cX5_wallsOf 18 = .ok (.istore_n 2, 1) := by decide +kernel
theorem dX5_wallsOf_19 : decode cX5_wallsOf 19 = .ok (.iload_n 2, 1) := by decide +kernel
theorem dX5_wallsOf_20 : decode cX5_wallsOf 20 = .ok (.aload_n 0, 1) := by decide +kernel
theorem dX5_wallsOf_21 : decode cX5_wallsOf 21 = .ok (.getfield 40, 3) := by decide +kernel
theorem dX5_wallsOf_24 : decode cX5_wallsOf 24 = .ok (.iload_n 1, 1) := by decide +kernel
theorem dX5_wallsOf_25 : decode cX5_wallsOf 25 = .ok (.ishr, 1) := by decide +kernel
theorem dX5_wallsOf_26 : decode cX5_wallsOf 26 = .ok (.iconst 1, 1) := by decide +kernel
theorem dX5_wallsOf_27 : decode cX5_wallsOf 27 = .ok (.iand, 1) := by decide +kernel
theorem dX5_wallsOf_28 : decode cX5_wallsOf 28 = .ok (.iadd, 1) := by decide +kernel
theorem dX5_wallsOf_29 : decode cX5_wallsOf 29 = .ok (.ireturn, 1) := by decide +kernel
theorem dX5_standing_0 : decode cX5_standing 0 = .ok (.iconst 0, 1) := by decide +kernel
theorem dX5_standing_1 : decode cX5_standing 1 = .ok (.istore_n 1, 1) := by decide +kernel
theorem dX5_standing_2 : decode cX5_standing 2 = .ok (.iconst 0, 1) := by decide +kernel
theorem dX5_standing_3 : decode cX5_standing 3 = .ok (.istore_n 2, 1) := by decide +kernel
theorem dX5_standing_4 : decode cX5_standing 4 = .ok (.iload_n 2, 1) := by decide +kernel
theorem dX5_standing_5 : decode cX5_standing 5 = .ok (.aload_n 0, 1) := by decide +kernel
theorem dX5_standing_6 : decode cX5_standing 6 = .ok (.getfield 21, 3) := by decide +kernel
theorem dX5_standing_9 : decode cX5_standing 9 = .ok (.if_icmp .ge 28, 3) := by decide +kernel
theorem dX5_standing_12 : decode cX5_standing 12 = .ok (.iload_n 1, 1) := by decide +kernel
theorem dX5_standing_13 : decode cX5_standing 13 = .ok (.aload_n 0, 1) := by decide +kernel
theorem dX5_standing_14 : decode cX5_standing 14 = .ok (.getfield 18, 3) := by decide +kernel
theorem dX5_standing_17 : decode cX5_standing 17 = .ok (.iload_n 2, 1) := by decide +kernel
theorem dX5_standing_18 : decode cX5_standing 18 = .ok (.iaload, 1) := by decide +kernel
theorem dX5_standing_19 : decode cX5_standing 19 = .ok (.ifCond .le 9, 3) := by decide +kernel
theorem dX5_standing_22 : decode cX5_standing 22 = .ok (.iconst 1, 1) := by decide +kernel
theorem dX5_standing_23 : decode cX5_standing 23 = .ok (.iload_n 2, 1) := by decide +kernel
theorem dX5_standing_24 : decode cX5_standing 24 = .ok (.ishl, 1) := by decide +kernel
theorem dX5_standing_25 : decode cX5_standing 25 = .ok (.goto 4, 3) := by decide +kernel
theorem dX5_standing_28 : decode cX5_standing 28 = .ok (.iconst 0, 1) := by decide +kernel
theorem dX5_standing_29 : decode cX5_standing 29 = .ok (.ior, 1) := by decide +kernel
theorem dX5_standing_30 : decode cX5_standing 30 = .ok (.istore_n 1, 1) := by decide +kernel
theorem dX5_standing_31 : decode cX5_standing 31 = .ok (.iinc 2 1, 3) := by decide +kernel
theorem dX5_standing_34 : decode cX5_standing 34 = .ok (.goto (-30), 3) := by decide +kernel
theorem dX5_standing_37 : decode cX5_standing 37 = .ok (.iload_n 1, 1) := by decide +kernel
theorem dX5_standing_38 : decode cX5_standing 38 = .ok (.ireturn, 1) := by decide +kernel
theorem dX5_leaning_0 : decode cX5_leaning 0 = .ok (.iconst 0, 1) := by decide +kernel
theorem dX5_leaning_1 : decode cX5_leaning 1 = .ok (.istore_n 1, 1) := by decide +kernel
theorem dX5_leaning_2 : decode cX5_leaning 2 = .ok (.iconst 0, 1) := by decide +kernel
theorem dX5_leaning_3 : decode cX5_leaning 3 = .ok (.istore_n 2, 1) := by decide +kernel
theorem dX5_leaning_4 : decode cX5_leaning 4 = .ok (.iload_n 2, 1) := by decide +kernel
theorem dX5_leaning_5 : decode cX5_leaning 5 = .ok (.aload_n 0, 1) := by decide +kernel
theorem dX5_leaning_6 : decode cX5_leaning 6 = .ok (.getfield 21, 3) := by decide +kernel
theorem dX5_leaning_9 : decode cX5_leaning 9 = .ok (.if_icmp .ge 27, 3) := by decide +kernel
theorem dX5_leaning_12 : decode cX5_leaning 12 = .ok (.iload_n 1, 1) := by decide +kernel
theorem dX5_leaning_13 : decode cX5_leaning 13 = .ok (.aload_n 0, 1) := by decide +kernel
theorem dX5_leaning_14 : decode cX5_leaning 14 = .ok (.iload_n 2, 1) := by decide +kernel
theorem dX5_leaning_15 : decode cX5_leaning 15 = .ok (.invokevirtual 49, 3) := by decide +kernel
theorem dX5_leaning_18 : decode cX5_leaning 18 = .ok (.ifCond .eq 9, 3) := by decide +kernel
theorem dX5_leaning_21 : decode cX5_leaning 21 = .ok (.iconst 1, 1) := by decide +kernel
theorem dX5_leaning_22 : decode cX5_leaning 22 = .ok (.iload_n 2, 1) := by decide +kernel
theorem dX5_leaning_23 : decode cX5_leaning 23 = .ok (.ishl, 1) := by decide +kernel
theorem dX5_leaning_24 : decode cX5_leaning 24 = .ok (.goto 4, 3) := by decide +kernel
theorem dX5_leaning_27 : decode cX5_leaning 27 = .ok (.iconst 0, 1) := by decide +kernel
theorem dX5_leaning_28 : decode cX5_leaning 28 = .ok (.ior, 1) := by decide +kernel
theorem dX5_leaning_29 : decode cX5_leaning 29 = .ok (.istore_n 1, 1) := by decide +kernel
theorem dX5_leaning_30 : decode cX5_leaning 30 = .ok (.iinc 2 1, 3) := by decide +kernel
theorem dX5_leaning_33 : decode cX5_leaning 33 = .ok (.goto (-29), 3) := by decide +kernel
theorem dX5_leaning_36 : decode cX5_leaning 36 = .ok (.iload_n 1, 1) := by decide +kernel
theorem dX5_leaning_37 : decode cX5_leaning 37 = .ok (.ireturn, 1) := by decide +kernel
theorem dX5_allSpin_0 : decode cX5_allSpin 0 = .ok (.iconst 0, 1) := by decide +kernel
theorem dX5_allSpin_1 : decode cX5_allSpin 1 = .ok (.istore_n 1, 1) := by decide +kernel
theorem dX5_allSpin_2 : decode cX5_allSpin 2 = .ok (.iconst 0, 1) := by decide +kernel
theorem dX5_allSpin_3 : decode cX5_allSpin 3 = .ok (.istore_n 2, 1) := by decide +kernel
theorem dX5_allSpin_4 : decode cX5_allSpin 4 = .ok (.iload_n 2, 1) := by decide +kernel
theorem dX5_allSpin_5 : decode cX5_allSpin 5 = .ok (.aload_n 0, 1) := by decide +kernel
theorem dX5_allSpin_6 : decode cX5_allSpin 6 = .ok (.getfield 21, 3) := by decide +kernel
theorem dX5_allSpin_9 : decode cX5_allSpin 9 = .ok (.if_icmp .ge 18, 3) := by decide +kernel
theorem dX5_allSpin_12 : decode cX5_allSpin 12 = .ok (.iload_n 1, 1) := by decide +kernel
theorem dX5_allSpin_13 : decode cX5_allSpin 13 = .ok (.aload_n 0, 1) := by decide +kernel
theorem dX5_allSpin_14 : decode cX5_allSpin 14 = .ok (.getfield 18, 3) := by decide +kernel
theorem dX5_allSpin_17 : decode cX5_allSpin 17 = .ok (.iload_n 2, 1) := by decide +kernel
theorem dX5_allSpin_18 : decode cX5_allSpin 18 = .ok (.iaload, 1) := by decide +kernel
theorem dX5_allSpin_19 : decode cX5_allSpin 19 = .ok (.iadd, 1) := by decide +kernel
theorem dX5_allSpin_20 : decode cX5_allSpin 20 = .ok (.istore_n 1, 1) := by decide +kernel
theorem dX5_allSpin_21 : decode cX5_allSpin 21 = .ok (.iinc 2 1, 3) := by decide +kernel
theorem dX5_allSpin_24 : decode cX5_allSpin 24 = .ok (.goto (-20), 3) := by decide +kernel
theorem dX5_allSpin_27 : decode cX5_allSpin 27 = .ok (.iload_n 1, 1) := by decide +kernel
theorem dX5_allSpin_28 : decode cX5_allSpin 28 = .ok (.ireturn, 1) := by decide +kernel
theorem dX5_loss_0 : decode cX5_loss 0 = .ok (.aload_n 0, 1) := by decide +kernel
theorem dX5_loss_1 : decode cX5_loss 1 = .ok (.getfield 18, 3) := by decide +kernel
theorem dX5_loss_4 : decode cX5_loss 4 = .ok (.iload_n 1, 1) := by decide +kernel
theorem dX5_loss_5 : decode cX5_loss 5 = .ok (.iaload, 1) := by decide +kernel
theorem dX5_loss_6 : decode cX5_loss 6 = .ok (.ifCond .ne 5, 3) := by decide +kernel
theorem dX5_loss_9 : decode cX5_loss 9 = .ok (.iconst 0, 1) := by decide +kernel
theorem dX5_loss_10 : decode cX5_loss 10 = .ok (.ireturn, 1) := by decide +kernel
theorem dX5_loss_11 : decode cX5_loss 11 = .ok (.aload_n 0, 1) := by decide +kernel
theorem dX5_loss_12 : decode cX5_loss 12 = .ok (.getfield 9, 3) := by decide +kernel
theorem dX5_loss_15 : decode cX5_loss 15 = .ok (.iload_n 1, 1) := by decide +kernel
theorem dX5_loss_16 : decode cX5_loss 16 = .ok (.iaload, 1) := by decide +kernel
theorem dX5_loss_17 : decode cX5_loss 17 = .ok (.tableswitch 101 2 5 #[31, 57, 70, 78], 31) := by decide +kernel
theorem dX5_loss_48 : decode cX5_loss 48 = .ok (.aload_n 0, 1) := by decide +kernel
theorem dX5_loss_49 : decode cX5_loss 49 = .ok (.iload_n 1, 1) := by decide +kernel
theorem dX5_loss_50 : decode cX5_loss 50 = .ok (.invokevirtual 49, 3) := by decide +kernel
theorem dX5_loss_53 : decode cX5_loss 53 = .ok (.ifCond .eq 14, 3) := by decide +kernel
theorem dX5_loss_56 : decode cX5_loss 56 = .ok (.iconst 2, 1) := by decide +kernel
theorem dX5_loss_57 : decode cX5_loss 57 = .ok (.aload_n 0, 1) := by decide +kernel
theorem dX5_loss_58 : decode cX5_loss 58 = .ok (.getfield 15, 3) := by decide +kernel
theorem dX5_loss_61 : decode cX5_loss 61 = .ok (.iload_n 1, 1) := by decide +kernel
theorem dX5_loss_62 : decode cX5_loss 62 = .ok (.iaload, 1) := by decide +kernel
theorem dX5_loss_63 : decode cX5_loss 63 = .ok (.imul, 1) := by decide +kernel
theorem dX5_loss_64 : decode cX5_loss 64 = .ok (.goto 9, 3) := by decide +kernel
theorem dX5_loss_67 : decode cX5_loss 67 = .ok (.aload_n 0, 1) := by decide +kernel
theorem dX5_loss_68 : decode cX5_loss 68 = .ok (.getfield 15, 3) := by decide +kernel
theorem dX5_loss_71 : decode cX5_loss 71 = .ok (.iload_n 1, 1) := by decide +kernel
theorem dX5_loss_72 : decode cX5_loss 72 = .ok (.iaload, 1) := by decide +kernel
theorem dX5_loss_73 : decode cX5_loss 73 = .ok (.ireturn, 1) := by decide +kernel
theorem dX5_loss_74 : decode cX5_loss 74 = .ok (.iconst 1, 1) := by decide +kernel
theorem dX5_loss_75 : decode cX5_loss 75 = .ok (.aload_n 0, 1) := by decide +kernel
theorem dX5_loss_76 : decode cX5_loss 76 = .ok (.getfield 15, 3) := by decide +kernel
theorem dX5_loss_79 : decode cX5_loss 79 = .ok (.iload_n 1, 1) := by decide +kernel
theorem dX5_loss_80 : decode cX5_loss 80 = .ok (.iaload, 1) := by decide +kernel
theorem dX5_loss_81 : decode cX5_loss 81 = .ok (.iconst 2, 1) := by decide +kernel
theorem dX5_loss_82 : decode cX5_loss 82 = .ok (.idiv, 1) := by decide +kernel
theorem dX5_loss_83 : decode cX5_loss 83 = .ok (.invokestatic 53, 3) := by decide +kernel
theorem dX5_loss_86 : decode cX5_loss 86 = .ok (.ireturn, 1) := by decide +kernel
theorem dX5_loss_87 : decode cX5_loss 87 = .ok (.iconst 1, 1) := by decide +kernel
theorem dX5_loss_88 : decode cX5_loss 88 = .ok (.aload_n 0, 1) := by decide +kernel
theorem dX5_loss_89 : decode cX5_loss 89 = .ok (.iload_n 1, 1) := by decide +kernel
theorem dX5_loss_90 : decode cX5_loss 90 = .ok (.invokevirtual 56, 3) := by decide +kernel
theorem dX5_loss_93 : decode cX5_loss 93 = .ok (.iadd, 1) := by decide +kernel
theorem dX5_loss_94 : decode cX5_loss 94 = .ok (.ireturn, 1) := by decide +kernel
theorem dX5_loss_95 : decode cX5_loss 95 = .ok (.aload_n 0, 1) := by decide +kernel
theorem dX5_loss_96 : decode cX5_loss 96 = .ok (.getfield 18, 3) := by decide +kernel
theorem dX5_loss_99 : decode cX5_loss 99 = .ok (.iload_n 1, 1) := by decide +kernel
theorem dX5_loss_100 : decode cX5_loss 100 = .ok (.iaload, 1) := by decide +kernel
theorem dX5_loss_101 : decode cX5_loss 101 = .ok (.bipush 50, 2) := by decide +kernel
theorem dX5_loss_103 : decode cX5_loss 103 = .ok (.if_icmp .lt 7, 3) := by decide +kernel
theorem dX5_loss_106 : decode cX5_loss 106 = .ok (.iconst 0, 1) := by decide +kernel
theorem dX5_loss_107 : decode cX5_loss 107 = .ok (.goto 10, 3) := by decide +kernel
theorem dX5_loss_110 : decode cX5_loss 110 = .ok (.iconst 1, 1) := by decide +kernel
theorem dX5_loss_111 : decode cX5_loss 111 = .ok (.aload_n 0, 1) := by decide +kernel
theorem dX5_loss_112 : decode cX5_loss 112 = .ok (.iload_n 1, 1) := by decide +kernel
theorem dX5_loss_113 : decode cX5_loss 113 = .ok (.invokevirtual 56, 3) := by decide +kernel
theorem dX5_loss_116 : decode cX5_loss 116 = .ok (.iadd, 1) := by decide +kernel
theorem dX5_loss_117 : decode cX5_loss 117 = .ok (.ireturn, 1) := by decide +kernel
theorem dX5_loss_118 : decode cX5_loss 118 = .ok (.aload_n 0, 1) := by decide +kernel
theorem dX5_loss_119 : decode cX5_loss 119 = .ok (.getfield 15, 3) := by decide +kernel
theorem dX5_loss_122 : decode cX5_loss 122 = .ok (.iload_n 1, 1) := by decide +kernel
theorem dX5_loss_123 : decode cX5_loss 123 = .ok (.iaload, 1) := by decide +kernel
theorem dX5_loss_124 : decode cX5_loss 124 = .ok (.ireturn, 1) := by decide +kernel
theorem dX5_pass_0 : decode cX5_pass 0 = .ok (.aload_n 0, 1) := by decide +kernel
theorem dX5_pass_1 : decode cX5_pass 1 = .ok (.invokevirtual 60, 3) := by decide +kernel
theorem dX5_pass_4 : decode cX5_pass 4 = .ok (.istore_n 1, 1) := by decide +kernel
theorem dX5_pass_5 : decode cX5_pass 5 = .ok (.iconst 0, 1) := by decide +kernel
theorem dX5_pass_6 : decode cX5_pass 6 = .ok (.istore_n 2, 1) := by decide +kernel
theorem dX5_pass_7 : decode cX5_pass 7 = .ok (.iload_n 2, 1) := by decide +kernel
theorem dX5_pass_8 : decode cX5_pass 8 = .ok (.aload_n 0, 1) := by decide +kernel
theorem dX5_pass_9 : decode cX5_pass 9 = .ok (.getfield 21, 3) := by decide +kernel
theorem dX5_pass_12 : decode cX5_pass 12 = .ok (.if_icmp .ge 31, 3) := by decide +kernel
theorem dX5_pass_15 : decode cX5_pass 15 = .ok (.aload_n 0, 1) := by decide +kernel
theorem dX5_pass_16 : decode cX5_pass 16 = .ok (.getfield 18, 3) := by decide +kernel
theorem dX5_pass_19 : decode cX5_pass 19 = .ok (.iload_n 2, 1) := by decide +kernel
theorem dX5_pass_20 : decode cX5_pass 20 = .ok (.iconst 0, 1) := by decide +kernel
theorem dX5_pass_21 : decode cX5_pass 21 = .ok (.aload_n 0, 1) := by decide +kernel
theorem dX5_pass_22 : decode cX5_pass 22 = .ok (.getfield 18, 3) := by decide +kernel
theorem dX5_pass_25 : decode cX5_pass 25 = .ok (.iload_n 2, 1) := by decide +kernel
theorem dX5_pass_26 : decode cX5_pass 26 = .ok (.iaload, 1) := by decide +kernel
theorem dX5_pass_27 : decode cX5_pass 27 = .ok (.aload_n 0, 1) := by decide +kernel
theorem dX5_pass_28 : decode cX5_pass 28 = .ok (.iload_n 2, 1) := by decide +kernel
theorem dX5_pass_29 : decode cX5_pass 29 = .ok (.invokevirtual 64, 3) := by decide +kernel
theorem dX5_pass_32 : decode cX5_pass 32 = .ok (.isub, 1) := by decide +kernel
theorem dX5_pass_33 : decode cX5_pass 33 = .ok (.invokestatic 53, 3) := by decide +kernel
theorem dX5_pass_36 : decode cX5_pass 36 = .ok (.iastore, 1) := by decide +kernel
theorem dX5_pass_37 : decode cX5_pass 37 = .ok (.iinc 2 1, 3) := by decide +kernel
theorem dX5_pass_40 : decode cX5_pass 40 = .ok (.goto (-33), 3) := by decide +kernel
theorem dX5_pass_43 : decode cX5_pass 43 = .ok (.iconst 0, 1) := by decide +kernel
theorem dX5_pass_44 : decode cX5_pass 44 = .ok (.istore_n 2, 1) := by decide +kernel
theorem dX5_pass_45 : decode cX5_pass 45 = .ok (.iload_n 2, 1) := by decide +kernel
theorem dX5_pass_46 : decode cX5_pass 46 = .ok (.iconst 1, 1) := by decide +kernel
theorem dX5_pass_47 : decode cX5_pass 47 = .ok (.iadd, 1) := by decide +kernel
theorem dX5_pass_48 : decode cX5_pass 48 = .ok (.aload_n 0, 1) := by decide +kernel
theorem dX5_pass_49 : decode cX5_pass 49 = .ok (.getfield 21, 3) := by decide +kernel
theorem dX5_pass_52 : decode cX5_pass 52 = .ok (.if_icmp .ge 80, 3) := by decide +kernel
theorem dX5_pass_55 : decode cX5_pass 55 = .ok (.aload_n 0, 1) := by decide +kernel
theorem dX5_pass_56 : decode cX5_pass 56 = .ok (.getfield 40, 3) := by decide +kernel
theorem dX5_pass_59 : decode cX5_pass 59 = .ok (.iload_n 2, 1) := by decide +kernel
theorem dX5_pass_60 : decode cX5_pass 60 = .ok (.ishr, 1) := by decide +kernel
theorem dX5_pass_61 : decode cX5_pass 61 = .ok (.iconst 1, 1) := by decide +kernel
theorem dX5_pass_62 : decode cX5_pass 62 = .ok (.iand, 1) := by decide +kernel
theorem dX5_pass_63 : decode cX5_pass 63 = .ok (.ifCond .eq 63, 3) := by decide +kernel
theorem dX5_pass_66 : decode cX5_pass 66 = .ok (.aload_n 0, 1) := by decide +kernel
theorem dX5_pass_67 : decode cX5_pass 67 = .ok (.getfield 18, 3) := by decide +kernel
theorem dX5_pass_70 : decode cX5_pass 70 = .ok (.iload_n 2, 1) := by decide +kernel
theorem dX5_pass_71 : decode cX5_pass 71 = .ok (.iaload, 1) := by decide +kernel
theorem dX5_pass_72 : decode cX5_pass 72 = .ok (.ifCond .le 54, 3) := by decide +kernel
theorem dX5_pass_75 : decode cX5_pass 75 = .ok (.aload_n 0, 1) := by decide +kernel
theorem dX5_pass_76 : decode cX5_pass 76 = .ok (.getfield 18, 3) := by decide +kernel
theorem dX5_pass_79 : decode cX5_pass 79 = .ok (.iload_n 2, 1) := by decide +kernel
theorem dX5_pass_80 : decode cX5_pass 80 = .ok (.iconst 1, 1) := by decide +kernel
theorem dX5_pass_81 : decode cX5_pass 81 = .ok (.iadd, 1) := by decide +kernel
theorem dX5_pass_82 : decode cX5_pass 82 = .ok (.iaload, 1) := by decide +kernel
theorem dX5_pass_83 : decode cX5_pass 83 = .ok (.ifCond .le 43, 3) := by decide +kernel
theorem dX5_pass_86 : decode cX5_pass 86 = .ok (.aload_n 0, 1) := by decide +kernel
theorem dX5_pass_87 : decode cX5_pass 87 = .ok (.getfield 18, 3) := by decide +kernel
theorem dX5_pass_90 : decode cX5_pass 90 = .ok (.iload_n 2, 1) := by decide +kernel
theorem dX5_pass_91 : decode cX5_pass 91 = .ok (.iaload, 1) := by decide +kernel
theorem dX5_pass_92 : decode cX5_pass 92 = .ok (.aload_n 0, 1) := by decide +kernel
theorem dX5_pass_93 : decode cX5_pass 93 = .ok (.getfield 18, 3) := by decide +kernel
theorem dX5_pass_96 : decode cX5_pass 96 = .ok (.iload_n 2, 1) := by decide +kernel
theorem dX5_pass_97 : decode cX5_pass 97 = .ok (.iconst 1, 1) := by decide +kernel
theorem dX5_pass_98 : decode cX5_pass 98 = .ok (.iadd, 1) := by decide +kernel
theorem dX5_pass_99 : decode cX5_pass 99 = .ok (.iaload, 1) := by decide +kernel
theorem dX5_pass_100 : decode cX5_pass 100 = .ok (.isub, 1) := by decide +kernel
theorem dX5_pass_101 : decode cX5_pass 101 = .ok (.iconst 4, 1) := by decide +kernel
theorem dX5_pass_102 : decode cX5_pass 102 = .ok (.idiv, 1) := by decide +kernel
theorem dX5_pass_103 : decode cX5_pass 103 = .ok (.istore_n 3, 1) := by decide +kernel
theorem dX5_pass_104 : decode cX5_pass 104 = .ok (.aload_n 0, 1) := by decide +kernel
theorem dX5_pass_105 : decode cX5_pass 105 = .ok (.getfield 18, 3) := by decide +kernel
theorem dX5_pass_108 : decode cX5_pass 108 = .ok (.iload_n 2, 1) := by decide +kernel
theorem dX5_pass_109 : decode cX5_pass 109 = .ok (.dup2, 1) := by decide +kernel
theorem dX5_pass_110 : decode cX5_pass 110 = .ok (.iaload, 1) := by decide +kernel
theorem dX5_pass_111 : decode cX5_pass 111 = .ok (.iload_n 3, 1) := by decide +kernel
theorem dX5_pass_112 : decode cX5_pass 112 = .ok (.isub, 1) := by decide +kernel
theorem dX5_pass_113 : decode cX5_pass 113 = .ok (.iastore, 1) := by decide +kernel
theorem dX5_pass_114 : decode cX5_pass 114 = .ok (.aload_n 0, 1) := by decide +kernel
theorem dX5_pass_115 : decode cX5_pass 115 = .ok (.getfield 18, 3) := by decide +kernel
theorem dX5_pass_118 : decode cX5_pass 118 = .ok (.iload_n 2, 1) := by decide +kernel
theorem dX5_pass_119 : decode cX5_pass 119 = .ok (.iconst 1, 1) := by decide +kernel
theorem dX5_pass_120 : decode cX5_pass 120 = .ok (.iadd, 1) := by decide +kernel
theorem dX5_pass_121 : decode cX5_pass 121 = .ok (.dup2, 1) := by decide +kernel
theorem dX5_pass_122 : decode cX5_pass 122 = .ok (.iaload, 1) := by decide +kernel
theorem dX5_pass_123 : decode cX5_pass 123 = .ok (.iload_n 3, 1) := by decide +kernel
theorem dX5_pass_124 : decode cX5_pass 124 = .ok (.iadd, 1) := by decide +kernel
theorem dX5_pass_125 : decode cX5_pass 125 = .ok (.iastore, 1) := by decide +kernel
theorem dX5_pass_126 : decode cX5_pass 126 = .ok (.iinc 2 1, 3) := by decide +kernel
theorem dX5_pass_129 : decode cX5_pass 129 = .ok (.goto (-84), 3) := by decide +kernel
theorem dX5_pass_132 : decode cX5_pass 132 = .ok (.iconst 0, 1) := by decide +kernel
theorem dX5_pass_133 : decode cX5_pass 133 = .ok (.istore_n 2, 1) := by decide +kernel
theorem dX5_pass_134 : decode cX5_pass 134 = .ok (.iload_n 2, 1) := by decide +kernel
theorem dX5_pass_135 : decode cX5_pass 135 = .ok (.iconst 1, 1) := by decide +kernel
theorem dX5_pass_136 : decode cX5_pass 136 = .ok (.iadd, 1) := by decide +kernel
theorem dX5_pass_137 : decode cX5_pass 137 = .ok (.aload_n 0, 1) := by decide +kernel
theorem dX5_pass_138 : decode cX5_pass 138 = .ok (.getfield 21, 3) := by decide +kernel
theorem dX5_pass_141 : decode cX5_pass 141 = .ok (.if_icmp .ge 51, 3) := by decide +kernel
theorem dX5_pass_144 : decode cX5_pass 144 = .ok (.iload_n 1, 1) := by decide +kernel
theorem dX5_pass_145 : decode cX5_pass 145 = .ok (.iload_n 2, 1) := by decide +kernel
theorem dX5_pass_146 : decode cX5_pass 146 = .ok (.ishr, 1) := by decide +kernel
theorem dX5_pass_147 : decode cX5_pass 147 = .ok (.iconst 1, 1) := by decide +kernel
theorem dX5_pass_148 : decode cX5_pass 148 = .ok (.iand, 1) := by decide +kernel
theorem dX5_pass_149 : decode cX5_pass 149 = .ok (.ifCond .eq 37, 3) := by decide +kernel
theorem dX5_pass_152 : decode cX5_pass 152 = .ok (.aload_n 0, 1) := by decide +kernel
theorem dX5_pass_153 : decode cX5_pass 153 = .ok (.getfield 18, 3) := by decide +kernel
theorem dX5_pass_156 : decode cX5_pass 156 = .ok (.iload_n 2, 1) := by decide +kernel
theorem dX5_pass_157 : decode cX5_pass 157 = .ok (.iaload, 1) := by decide +kernel
theorem dX5_pass_158 : decode cX5_pass 158 = .ok (.ifCond .ne 28, 3) := by decide +kernel
theorem dX5_pass_161 : decode cX5_pass 161 = .ok (.aload_n 0, 1) := by decide +kernel
theorem dX5_pass_162 : decode cX5_pass 162 = .ok (.getfield 18, 3) := by decide +kernel
theorem dX5_pass_165 : decode cX5_pass 165 = .ok (.iload_n 2, 1) := by decide +kernel
theorem dX5_pass_166 : decode cX5_pass 166 = .ok (.iconst 1, 1) := by decide +kernel
theorem dX5_pass_167 : decode cX5_pass 167 = .ok (.iadd, 1) := by decide +kernel
theorem dX5_pass_168 : decode cX5_pass 168 = .ok (.iconst 0, 1) := by decide +kernel
theorem dX5_pass_169 : decode cX5_pass 169 = .ok (.aload_n 0, 1) := by decide +kernel
theorem dX5_pass_170 : decode cX5_pass 170 = .ok (.getfield 18, 3) := by decide +kernel
theorem dX5_pass_173 : decode cX5_pass 173 = .ok (.iload_n 2, 1) := by decide +kernel
theorem dX5_pass_174 : decode cX5_pass 174 = .ok (.iconst 1, 1) := by decide +kernel
theorem dX5_pass_175 : decode cX5_pass 175 = .ok (.iadd, 1) := by decide +kernel
theorem dX5_pass_176 : decode cX5_pass 176 = .ok (.iaload, 1) := by decide +kernel
theorem dX5_pass_177 : decode cX5_pass 177 = .ok (.aload_n 0, 1) := by decide +kernel
theorem dX5_pass_178 : decode cX5_pass 178 = .ok (.getfield 34, 3) := by decide +kernel
theorem dX5_pass_181 : decode cX5_pass 181 = .ok (.isub, 1) := by decide +kernel
theorem dX5_pass_182 : decode cX5_pass 182 = .ok (.invokestatic 53, 3) := by decide +kernel
theorem dX5_pass_185 : decode cX5_pass 185 = .ok (.iastore, 1) := by decide +kernel
theorem dX5_pass_186 : decode cX5_pass 186 = .ok (.iinc 2 1, 3) := by decide +kernel
theorem dX5_pass_189 : decode cX5_pass 189 = .ok (.goto (-55), 3) := by decide +kernel
theorem dX5_pass_192 : decode cX5_pass 192 = .ok (.aload_n 0, 1) := by decide +kernel
theorem dX5_pass_193 : decode cX5_pass 193 = .ok (.dup, 1) := by decide +kernel
theorem dX5_pass_194 : decode cX5_pass 194 = .ok (.getfield 37, 3) := by decide +kernel
theorem dX5_pass_197 : decode cX5_pass 197 = .ok (.iconst 1, 1) := by decide +kernel
theorem dX5_pass_198 : decode cX5_pass 198 = .ok (.iadd, 1) := by decide +kernel
theorem dX5_pass_199 : decode cX5_pass 199 = .ok (.putfield 37, 3) := by decide +kernel
theorem dX5_pass_202 : decode cX5_pass 202 = .ok (.return_, 1) := by decide +kernel
theorem dX5_passAll_0 : decode cX5_passAll 0 = .ok (.iconst 0, 1) := by decide +kernel
theorem dX5_passAll_1 : decode cX5_passAll 1 = .ok (.istore_n 2, 1) := by decide +kernel
theorem dX5_passAll_2 : decode cX5_passAll 2 = .ok (.iload_n 2, 1) := by decide +kernel
theorem dX5_passAll_3 : decode cX5_passAll 3 = .ok (.iload_n 1, 1) := by decide +kernel
theorem dX5_passAll_4 : decode cX5_passAll 4 = .ok (.if_icmp .ge 13, 3) := by decide +kernel
theorem dX5_passAll_7 : decode cX5_passAll 7 = .ok (.aload_n 0, 1) := by decide +kernel
theorem dX5_passAll_8 : decode cX5_passAll 8 = .ok (.invokevirtual 67, 3) := by decide +kernel
theorem dX5_passAll_11 : decode cX5_passAll 11 = .ok (.iinc 2 1, 3) := by decide +kernel
theorem dX5_passAll_14 : decode cX5_passAll 14 = .ok (.goto (-12), 3) := by decide +kernel
theorem dX5_passAll_17 : decode cX5_passAll 17 = .ok (.return_, 1) := by decide +kernel
theorem dX5_lacking_0 : decode cX5_lacking 0 = .ok (.aload_n 0, 1) := by decide +kernel
theorem dX5_lacking_1 : decode cX5_lacking 1 = .ok (.getfield 18, 3) := by decide +kernel
theorem dX5_lacking_4 : decode cX5_lacking 4 = .ok (.iload_n 1, 1) := by decide +kernel
theorem dX5_lacking_5 : decode cX5_lacking 5 = .ok (.iaload, 1) := by decide +kernel
theorem dX5_lacking_6 : decode cX5_lacking 6 = .ok (.ifCond .le 15, 3) := by decide +kernel
theorem dX5_lacking_9 : decode cX5_lacking 9 = .ok (.bipush 99, 2) := by decide +kernel
theorem dX5_lacking_11 : decode cX5_lacking 11 = .ok (.aload_n 0, 1) := by decide +kernel
theorem dX5_lacking_12 : decode cX5_lacking 12 = .ok (.getfield 18, 3) := by decide +kernel
theorem dX5_lacking_15 : decode cX5_lacking 15 = .ok (.iload_n 1, 1) := by decide +kernel
theorem dX5_lacking_16 : decode cX5_lacking 16 = .ok (.iaload, 1) := by decide +kernel
theorem dX5_lacking_17 : decode cX5_lacking 17 = .ok (.isub, 1) := by decide +kernel
theorem dX5_lacking_18 : decode cX5_lacking 18 = .ok (.goto 4, 3) := by decide +kernel
theorem dX5_lacking_21 : decode cX5_lacking 21 = .ok (.iconst 0, 1) := by decide +kernel
theorem dX5_lacking_22 : decode cX5_lacking 22 = .ok (.ireturn, 1) := by decide +kernel
theorem dX5_yards_0 : decode cX5_yards 0 = .ok (.iconst 0, 1) := by decide +kernel
theorem dX5_yards_1 : decode cX5_yards 1 = .ok (.istore_n 3, 1) := by decide +kernel
theorem dX5_yards_2 : decode cX5_yards 2 = .ok (.iconst 0, 1) := by decide +kernel
theorem dX5_yards_3 : decode cX5_yards 3 = .ok (.istore 4, 2) := by decide +kernel
theorem dX5_yards_5 : decode cX5_yards 5 = .ok (.iload 4, 2) := by decide +kernel
theorem dX5_yards_7 : decode cX5_yards 7 = .ok (.aload_n 0, 1) := by decide +kernel
theorem dX5_yards_8 : decode cX5_yards 8 = .ok (.getfield 21, 3) := by decide +kernel
theorem dX5_yards_11 : decode cX5_yards 11 = .ok (.if_icmp .ge 18, 3) := by decide +kernel
theorem dX5_yards_14 : decode cX5_yards 14 = .ok (.iload_n 3, 1) := by decide +kernel
theorem dX5_yards_15 : decode cX5_yards 15 = .ok (.aload_n 0, 1) := by decide +kernel
theorem dX5_yards_16 : decode cX5_yards 16 = .ok (.iload 4, 2) := by decide +kernel
theorem dX5_yards_18 : decode cX5_yards 18 = .ok (.invokevirtual 70, 3) := by decide +kernel
theorem dX5_yards_21 : decode cX5_yards 21 = .ok (.iadd, 1) := by decide +kernel
theorem dX5_yards_22 : decode cX5_yards 22 = .ok (.istore_n 3, 1) := by decide +kernel
theorem dX5_yards_23 : decode cX5_yards 23 = .ok (.iinc 4 1, 3) := by decide +kernel
theorem dX5_yards_26 : decode cX5_yards 26 = .ok (.goto (-21), 3) := by decide +kernel
theorem dX5_yards_29 : decode cX5_yards 29 = .ok (.iload_n 3, 1) := by decide +kernel
theorem dX5_yards_30 : decode cX5_yards 30 = .ok (.ifCond .ne 5, 3) := by decide +kernel
theorem dX5_yards_33 : decode cX5_yards 33 = .ok (.iconst 0, 1) := by decide +kernel
theorem dX5_yards_34 : decode cX5_yards 34 = .ok (.ireturn, 1) := by decide +kernel
theorem dX5_yards_35 : decode cX5_yards 35 = .ok (.iload_n 2, 1) := by decide +kernel
theorem dX5_yards_36 : decode cX5_yards 36 = .ok (.istore 4, 2) := by decide +kernel
theorem dX5_yards_38 : decode cX5_yards 38 = .ok (.iconst 0, 1) := by decide +kernel
theorem dX5_yards_39 : decode cX5_yards 39 = .ok (.istore 5, 2) := by decide +kernel
theorem dX5_yards_41 : decode cX5_yards 41 = .ok (.iconst 0, 1) := by decide +kernel
theorem dX5_yards_42 : decode cX5_yards 42 = .ok (.istore 6, 2) := by decide +kernel
theorem dX5_yards_44 : decode cX5_yards 44 = .ok (.iload 6, 2) := by decide +kernel
theorem dX5_yards_46 : decode cX5_yards 46 = .ok (.aload_n 0, 1) := by decide +kernel
theorem dX5_yards_47 : decode cX5_yards 47 = .ok (.getfield 21, 3) := by decide +kernel
theorem dX5_yards_50 : decode cX5_yards 50 = .ok (.if_icmp .ge 49, 3) := by decide +kernel
theorem dX5_yards_53 : decode cX5_yards 53 = .ok (.iload 4, 2) := by decide +kernel
theorem dX5_yards_55 : decode cX5_yards 55 = .ok (.iload_n 2, 1) := by decide +kernel
theorem dX5_yards_56 : decode cX5_yards 56 = .ok (.aload_n 0, 1) := by decide +kernel
theorem dX5_yards_57 : decode cX5_yards 57 = .ok (.iload 6, 2) := by decide +kernel
theorem dX5_yards_59 : decode cX5_yards 59 = .ok (.invokevirtual 70, 3) := by decide +kernel
theorem dX5_yards_62 : decode cX5_yards 62 = .ok (.imul, 1) := by decide +kernel
theorem dX5_yards_63 : decode cX5_yards 63 = .ok (.iload_n 3, 1) := by decide +kernel
theorem dX5_yards_64 : decode cX5_yards 64 = .ok (.idiv, 1) := by decide +kernel
theorem dX5_yards_65 : decode cX5_yards 65 = .ok (.isub, 1) := by decide +kernel
theorem dX5_yards_66 : decode cX5_yards 66 = .ok (.istore 4, 2) := by decide +kernel
theorem dX5_yards_68 : decode cX5_yards 68 = .ok (.iload 5, 2) := by decide +kernel
theorem dX5_yards_70 : decode cX5_yards 70 = .ok (.iload 6, 2) := by decide +kernel
theorem dX5_yards_72 : decode cX5_yards 72 = .ok (.iload_n 1, 1) := by decide +kernel
theorem dX5_yards_73 : decode cX5_yards 73 = .ok (.if_icmp .ge 16, 3) := by decide +kernel
theorem dX5_yards_76 : decode cX5_yards 76 = .ok (.aload_n 0, 1) := by decide +kernel
theorem dX5_yards_77 : decode cX5_yards 77 = .ok (.iload 6, 2) := by decide +kernel
theorem dX5_yards_79 : decode cX5_yards 79 = .ok (.invokevirtual 70, 3) := by decide +kernel
theorem dX5_yards_82 : decode cX5_yards 82 = .ok (.ifCond .le 7, 3) := by decide +kernel
theorem dX5_yards_85 : decode cX5_yards 85 = .ok (.iconst 1, 1) := by decide +kernel
theorem dX5_yards_86 : decode cX5_yards 86 = .ok (.goto 4, 3) := by decide +kernel
theorem dX5_yards_89 : decode cX5_yards 89 = .ok (.iconst 0, 1) := by decide +kernel
theorem dX5_yards_90 : decode cX5_yards 90 = .ok (.iadd, 1) := by decide +kernel
theorem dX5_yards_91 : decode cX5_yards 91 = .ok (.istore 5, 2) := by decide +kernel
theorem dX5_yards_93 : decode cX5_yards 93 = .ok (.iinc 6 1, 3) := by decide +kernel
theorem dX5_yards_96 : decode cX5_yards 96 = .ok (.goto (-52), 3) := by decide +kernel
theorem dX5_yards_99 : decode cX5_yards 99 = .ok (.aload_n 0, 1) := by decide +kernel
theorem dX5_yards_100 : decode cX5_yards 100 = .ok (.iload_n 1, 1) := by decide +kernel
theorem dX5_yards_101 : decode cX5_yards 101 = .ok (.invokevirtual 70, 3) := by decide +kernel
theorem dX5_yards_104 : decode cX5_yards 104 = .ok (.ifCond .le 14, 3) := by decide +kernel
theorem dX5_yards_107 : decode cX5_yards 107 = .ok (.iload 5, 2) := by decide +kernel
theorem dX5_yards_109 : decode cX5_yards 109 = .ok (.iload 4, 2) := by decide +kernel
theorem dX5_yards_111 : decode cX5_yards 111 = .ok (.if_icmp .ge 7, 3) := by decide +kernel
theorem dX5_yards_114 : decode cX5_yards 114 = .ok (.iconst 1, 1) := by decide +kernel
theorem dX5_yards_115 : decode cX5_yards 115 = .ok (.goto 4, 3) := by decide +kernel
theorem dX5_yards_118 : decode cX5_yards 118 = .ok (.iconst 0, 1) := by decide +kernel
theorem dX5_yards_119 : decode cX5_yards 119 = .ok (.istore 6, 2) := by decide +kernel
theorem dX5_yards_121 : decode cX5_yards 121 = .ok (.iload_n 2, 1) := by decide +kernel
theorem dX5_yards_122 : decode cX5_yards 122 = .ok (.aload_n 0, 1) := by decide +kernel
theorem dX5_yards_123 : decode cX5_yards 123 = .ok (.iload_n 1, 1) := by decide +kernel
theorem dX5_yards_124 : decode cX5_yards 124 = .ok (.invokevirtual 70, 3) := by decide +kernel
theorem dX5_yards_127 : decode cX5_yards 127 = .ok (.imul, 1) := by decide +kernel
theorem dX5_yards_128 : decode cX5_yards 128 = .ok (.iload_n 3, 1) := by decide +kernel
theorem dX5_yards_129 : decode cX5_yards 129 = .ok (.idiv, 1) := by decide +kernel
theorem dX5_yards_130 : decode cX5_yards 130 = .ok (.iload 6, 2) := by decide +kernel
theorem dX5_yards_132 : decode cX5_yards 132 = .ok (.iadd, 1) := by decide +kernel
theorem dX5_yards_133 : decode cX5_yards 133 = .ok (.ireturn, 1) := by decide +kernel
theorem dX6_init_0 : decode cX6_init 0 = .ok (.aload_n 0, 1) := by decide +kernel
theorem dX6_init_1 : decode cX6_init 1 = .ok (.invokespecial 3, 3) := by decide +kernel
theorem dX6_init_4 : decode cX6_init 4 = .ok (.aload_n 0, 1) := by decide +kernel
theorem dX6_init_5 : decode cX6_init 5 = .ok (.new 9, 3) := by decide +kernel
theorem dX6_init_8 : decode cX6_init 8 = .ok (.dup, 1) := by decide +kernel
theorem dX6_init_9 : decode cX6_init 9 = .ok (.invokespecial 11, 3) := by decide +kernel
theorem dX6_init_12 : decode cX6_init 12 = .ok (.putfield 12, 3) := by decide +kernel
theorem dX6_init_15 : decode cX6_init 15 = .ok (.aload_n 0, 1) := by decide +kernel
theorem dX6_init_16 : decode cX6_init 16 = .ok (.bipush 100, 2) := by decide +kernel
theorem dX6_init_18 : decode cX6_init 18 = .ok (.newarray .int, 2) := by decide +kernel
theorem dX6_init_20 : decode cX6_init 20 = .ok (.putfield 18, 3) := by decide +kernel
theorem dX6_init_23 : decode cX6_init 23 = .ok (.return_, 1) := by decide +kernel
theorem dX6_add_0 : decode cX6_add 0 = .ok (.aload_n 0, 1) := by decide +kernel
theorem dX6_add_1 : decode cX6_add 1 = .ok (.getfield 18, 3) := by decide +kernel
theorem dX6_add_4 : decode cX6_add 4 = .ok (.aload_n 0, 1) := by decide +kernel
theorem dX6_add_5 : decode cX6_add 5 = .ok (.getfield 22, 3) := by decide +kernel
theorem dX6_add_8 : decode cX6_add 8 = .ok (.iload_n 1, 1) := by decide +kernel
theorem dX6_add_9 : decode cX6_add 9 = .ok (.iastore, 1) := by decide +kernel
theorem dX6_add_10 : decode cX6_add 10 = .ok (.aload_n 0, 1) := by decide +kernel
theorem dX6_add_11 : decode cX6_add 11 = .ok (.dup, 1) := by decide +kernel
theorem dX6_add_12 : decode cX6_add 12 = .ok (.getfield 22, 3) := by decide +kernel
theorem dX6_add_15 : decode cX6_add 15 = .ok (.iconst 1, 1) := by decide +kernel
theorem dX6_add_16 : decode cX6_add 16 = .ok (.iadd, 1) := by decide +kernel
theorem dX6_add_17 : decode cX6_add 17 = .ok (.putfield 22, 3) := by decide +kernel
theorem dX6_add_20 : decode cX6_add 20 = .ok (.aload_n 0, 1) := by decide +kernel
theorem dX6_add_21 : decode cX6_add 21 = .ok (.getfield 22, 3) := by decide +kernel
theorem dX6_add_24 : decode cX6_add 24 = .ok (.ireturn, 1) := by decide +kernel
theorem dX6_read_0 : decode cX6_read 0 = .ok (.aload_n 0, 1) := by decide +kernel
theorem dX6_read_1 : decode cX6_read 1 = .ok (.iconst 0, 1) := by decide +kernel
theorem dX6_read_2 : decode cX6_read 2 = .ok (.putfield 26, 3) := by decide +kernel
theorem dX6_read_5 : decode cX6_read 5 = .ok (.aload_n 0, 1) := by decide +kernel
theorem dX6_read_6 : decode cX6_read 6 = .ok (.iconst 0, 1) := by decide +kernel
theorem dX6_read_7 : decode cX6_read 7 = .ok (.putfield 29, 3) := by decide +kernel
theorem dX6_read_10 : decode cX6_read 10 = .ok (.aload_n 0, 1) := by decide +kernel
theorem dX6_read_11 : decode cX6_read 11 = .ok (.getfield 12, 3) := by decide +kernel
theorem dX6_read_14 : decode cX6_read 14 = .ok (.iconst 0, 1) := by decide +kernel
theorem dX6_read_15 : decode cX6_read 15 = .ok (.putfield 32, 3) := by decide +kernel
theorem dX6_read_18 : decode cX6_read 18 = .ok (.aload_n 0, 1) := by decide +kernel
theorem dX6_read_19 : decode cX6_read 19 = .ok (.bipush 116, 2) := by decide +kernel
theorem dX6_read_21 : decode cX6_read 21 = .ok (.invokevirtual 35, 3) := by decide +kernel
theorem dX6_read_24 : decode cX6_read 24 = .ok (.aload_n 0, 1) := by decide +kernel
theorem dX6_read_25 : decode cX6_read 25 = .ok (.getfield 12, 3) := by decide +kernel
theorem dX6_read_28 : decode cX6_read 28 = .ok (.aload_n 0, 1) := by decide +kernel
theorem dX6_read_29 : decode cX6_read 29 = .ok (.iconst 1, 1) := by decide +kernel
theorem dX6_read_30 : decode cX6_read 30 = .ok (.bipush 30, 2) := by decide +kernel
theorem dX6_read_32 : decode cX6_read 32 = .ok (.invokevirtual 39, 3) := by decide +kernel
theorem dX6_read_35 : decode cX6_read 35 = .ok (.putfield 43, 3) := by decide +kernel
theorem dX6_read_38 : decode cX6_read 38 = .ok (.aload_n 0, 1) := by decide +kernel
theorem dX6_read_39 : decode cX6_read 39 = .ok (.bipush 44, 2) := by decide +kernel
theorem dX6_read_41 : decode cX6_read 41 = .ok (.invokevirtual 35, 3) := by decide +kernel
theorem dX6_read_44 : decode cX6_read 44 = .ok (.aload_n 0, 1) := by decide +kernel
theorem dX6_read_45 : decode cX6_read 45 = .ok (.getfield 12, 3) := by decide +kernel
theorem dX6_read_48 : decode cX6_read 48 = .ok (.aload_n 0, 1) := by decide +kernel
theorem dX6_read_49 : decode cX6_read 49 = .ok (.iconst 0, 1) := by decide +kernel
theorem dX6_read_50 : decode cX6_read 50 = .ok (.bipush 40, 2) := by decide +kernel
theorem dX6_read_52 : decode cX6_read 52 = .ok (.invokevirtual 39, 3) := by decide +kernel
theorem dX6_read_55 : decode cX6_read 55 = .ok (.putfield 46, 3) := by decide +kernel
theorem dX6_read_58 : decode cX6_read 58 = .ok (.aload_n 0, 1) := by decide +kernel
theorem dX6_read_59 : decode cX6_read 59 = .ok (.bipush 59, 2) := by decide +kernel
theorem dX6_read_61 : decode cX6_read 61 = .ok (.invokevirtual 35, 3) := by decide +kernel
theorem dX6_read_64 : decode cX6_read 64 = .ok (.aload_n 0, 1) := by decide +kernel
theorem dX6_read_65 : decode cX6_read 65 = .ok (.invokevirtual 49, 3) := by decide +kernel
theorem dX6_read_68 : decode cX6_read 68 = .ok (.iconst 1, 1) := by decide +kernel
theorem dX6_read_69 : decode cX6_read 69 = .ok (.istore_n 1, 1) := by decide +kernel
theorem dX6_read_70 : decode cX6_read 70 = .ok (.iload_n 1, 1) := by decide +kernel
theorem dX6_read_71 : decode cX6_read 71 = .ok (.bipush 8, 2) := by decide +kernel
theorem dX6_read_73 : decode cX6_read 73 = .ok (.if_icmp .gt 31, 3) := by decide +kernel
theorem dX6_read_76 : decode cX6_read 76 = .ok (.aload_n 0, 1) := by decide +kernel
theorem dX6_read_77 : decode cX6_read 77 = .ok (.getfield 29, 3) := by decide +kernel
theorem dX6_read_80 : decode cX6_read 80 = .ok (.ifCond .ne 24, 3) := by decide +kernel
theorem dX6_read_83 : decode cX6_read 83 = .ok (.aload_n 0, 1) := by decide +kernel
theorem dX6_read_84 : decode cX6_read 84 = .ok (.getfield 26, 3) := by decide +kernel
theorem dX6_read_87 : decode cX6_read 87 = .ok (.aload_n 0, 1) := by decide +kernel
theorem dX6_read_88 : decode cX6_read 88 = .ok (.getfield 22, 3) := by decide +kernel
theorem dX6_read_91 : decode cX6_read 91 = .ok (.if_icmp .ge 13, 3) := by decide +kernel
theorem dX6_read_94 : decode cX6_read 94 = .ok (.aload_n 0, 1) := by decide +kernel
theorem dX6_read_95 : decode cX6_read 95 = .ok (.invokevirtual 49, 3) := by decide +kernel
theorem dX6_read_98 : decode cX6_read 98 = .ok (.iinc 1 1, 3) := by decide +kernel
theorem dX6_read_101 : decode cX6_read 101 = .ok (.goto (-31), 3) := by decide +kernel
theorem dX6_read_104 : decode cX6_read 104 = .ok (.return_, 1) := by decide +kernel
theorem dX6_readHouse_0 : decode cX6_readHouse 0 = .ok (.aload_n 0, 1) := by decide +kernel
theorem dX6_readHouse_1 : decode cX6_readHouse 1 = .ok (.invokevirtual 52, 3) := by decide +kernel
theorem dX6_readHouse_4 : decode cX6_readHouse 4 = .ok (.istore_n 1, 1) := by decide +kernel
theorem dX6_readHouse_5 : decode cX6_readHouse 5 = .ok (.aload_n 0, 1) := by decide +kernel
theorem dX6_readHouse_6 : decode cX6_readHouse 6 = .ok (.iconst 0, 1) := by decide +kernel
theorem dX6_readHouse_7 : decode cX6_readHouse 7 = .ok (.bipush 99, 2) := by decide +kernel
theorem dX6_readHouse_9 : decode cX6_readHouse 9 = .ok (.invokevirtual 39, 3) := by decide +kernel
theorem dX6_readHouse_12 : decode cX6_readHouse 12 = .ok (.istore_n 2, 1) := by decide +kernel
theorem dX6_readHouse_13 : decode cX6_readHouse 13 = .ok (.aload_n 0, 1) := by decide +kernel
theorem dX6_readHouse_14 : decode cX6_readHouse 14 = .ok (.bipush 44, 2) := by decide +kernel
theorem dX6_readHouse_16 : decode cX6_readHouse 16 = .ok (.invokevirtual 35, 3) := by decide +kernel
theorem dX6_readHouse_19 : decode cX6_readHouse 19 = .ok (.aload_n 0, 1) := by decide +kernel
theorem dX6_readHouse_20 : decode cX6_readHouse 20 = .ok (.iconst 1, 1) := by decide +kernel
theorem dX6_readHouse_21 : decode cX6_readHouse 21 = .ok (.bipush 9, 2) := by decide +kernel
theorem dX6_readHouse_23 : decode cX6_readHouse 23 = .ok (.invokevirtual 39, 3) := by decide +kernel
theorem dX6_readHouse_26 : decode cX6_readHouse 26 = .ok (.istore_n 3, 1) := by decide +kernel
theorem dX6_readHouse_27 : decode cX6_readHouse 27 = .ok (.aload_n 0, 1) := by decide +kernel
theorem dX6_readHouse_28 : decode cX6_readHouse 28 = .ok (.bipush 59, 2) := by decide +kernel
theorem dX6_readHouse_30 : decode cX6_readHouse 30 = .ok (.invokevirtual 35, 3) := by decide +kernel
theorem dX6_readHouse_33 : decode cX6_readHouse 33 = .ok (.aload_n 0, 1) := by decide +kernel
theorem dX6_readHouse_34 : decode cX6_readHouse 34 = .ok (.getfield 29, 3) := by decide +kernel
theorem dX6_readHouse_37 : decode cX6_readHouse 37 = .ok (.ifCond .ne 13, 3) := by decide +kernel
theorem dX6_readHouse_40 : decode cX6_readHouse 40 = .ok (.aload_n 0, 1) := by decide +kernel
theorem dX6_readHouse_41 : decode cX6_readHouse 41 = .ok (.getfield 12, 3) := by decide +kernel
theorem dX6_readHouse_44 : decode cX6_readHouse 44 = .ok (.iload_n 1, 1) := by decide +kernel
theorem dX6_readHouse_45 : decode cX6_readHouse 45 = .ok (.iload_n 2, 1) := by decide +kernel
theorem dX6_readHouse_46 : decode cX6_readHouse 46 = .ok (.iload_n 3, 1) := by decide +kernel
theorem dX6_readHouse_47 : decode cX6_readHouse 47 = .ok (.invokevirtual 56, 3) := by decide +kernel
theorem dX6_readHouse_50 : decode cX6_readHouse 50 = .ok (.return_, 1) := by decide +kernel
theorem dX6_readSort_0 : decode cX6_readSort 0 = .ok (.aload_n 0, 1) := by decide +kernel
theorem dX6_readSort_1 : decode cX6_readSort 1 = .ok (.getfield 26, 3) := by decide +kernel
theorem dX6_readSort_4 : decode cX6_readSort 4 = .ok (.aload_n 0, 1) := by decide +kernel
theorem dX6_readSort_5 : decode cX6_readSort 5 = .ok (.getfield 22, 3) := by decide +kernel
theorem dX6_readSort_8 : decode cX6_readSort 8 = .ok (.if_icmp .ge 23, 3) := by decide +kernel
theorem dX6_readSort_11 : decode cX6_readSort 11 = .ok (.ldc 60, 2) := by decide +kernel
theorem dX6_readSort_13 : decode cX6_readSort 13 = .ok (.aload_n 0, 1) := by decide +kernel
theorem dX6_readSort_14 : decode cX6_readSort 14 = .ok (.getfield 18, 3) := by decide +kernel
theorem dX6_readSort_17 : decode cX6_readSort 17 = .ok (.aload_n 0, 1) := by decide +kernel
theorem dX6_readSort_18 : decode cX6_readSort 18 = .ok (.getfield 26, 3) := by decide +kernel
theorem dX6_readSort_21 : decode cX6_readSort 21 = .ok (.iaload, 1) := by decide +kernel
theorem dX6_readSort_22 : decode cX6_readSort 22 = .ok (.i2c, 1) := by decide +kernel
theorem dX6_readSort_23 : decode cX6_readSort 23 = .ok (.invokevirtual 62, 3) := by decide +kernel
theorem dX6_readSort_26 : decode cX6_readSort 26 = .ok (.iconst 1, 1) := by decide +kernel
theorem dX6_readSort_27 : decode cX6_readSort 27 = .ok (.iadd, 1) := by decide +kernel
theorem dX6_readSort_28 : decode cX6_readSort 28 = .ok (.goto 4, 3) := by decide +kernel
theorem dX6_readSort_31 : decode cX6_readSort 31 = .ok (.iconst 0, 1) := by decide +kernel
theorem dX6_readSort_32 : decode cX6_readSort 32 = .ok (.istore_n 1, 1) := by decide +kernel
theorem dX6_readSort_33 : decode cX6_readSort 33 = .ok (.aload_n 0, 1) := by decide +kernel
theorem dX6_readSort_34 : decode cX6_readSort 34 = .ok (.getfield 29, 3) := by decide +kernel
theorem dX6_readSort_37 : decode cX6_readSort 37 = .ok (.ifCond .ne 24, 3) := by decide +kernel
theorem dX6_readSort_40 : decode cX6_readSort 40 = .ok (.iload_n 1, 1) := by decide +kernel
theorem dX6_readSort_41 : decode cX6_readSort 41 = .ok (.ifCond .le 20, 3) := by decide +kernel
theorem dX6_readSort_44 : decode cX6_readSort 44 = .ok (.aload_n 0, 1) := by decide +kernel
theorem dX6_readSort_45 : decode cX6_readSort 45 = .ok (.getfield 12, 3) := by decide +kernel
theorem dX6_readSort_48 : decode cX6_readSort 48 = .ok (.getfield 32, 3) := by decide +kernel
theorem dX6_readSort_51 : decode cX6_readSort 51 = .ok (.bipush 8, 2) := by decide +kernel
theorem dX6_readSort_53 : decode cX6_readSort 53 = .ok (.if_icmp .lt 8, 3) := by decide +kernel
theorem dX6_readSort_56 : decode cX6_readSort 56 = .ok (.aload_n 0, 1) := by decide +kernel
theorem dX6_readSort_57 : decode cX6_readSort 57 = .ok (.iconst 3, 1) := by decide +kernel
theorem dX6_readSort_58 : decode cX6_readSort 58 = .ok (.putfield 29, 3) := by decide +kernel
theorem dX6_readSort_61 : decode cX6_readSort 61 = .ok (.aload_n 0, 1) := by decide +kernel
theorem dX6_readSort_62 : decode cX6_readSort 62 = .ok (.iload_n 1, 1) := by decide +kernel
theorem dX6_readSort_63 : decode cX6_readSort 63 = .ok (.ifCond .le 7, 3) := by decide +kernel
theorem dX6_readSort_66 : decode cX6_readSort 66 = .ok (.iconst 1, 1) := by decide +kernel
theorem dX6_readSort_67 : decode cX6_readSort 67 = .ok (.goto 4, 3) := by decide +kernel
theorem dX6_readSort_70 : decode cX6_readSort 70 = .ok (.iconst 0, 1) := by decide +kernel
theorem dX6_readSort_71 : decode cX6_readSort 71 = .ok (.invokevirtual 68, 3) := by decide +kernel
theorem dX6_readSort_74 : decode cX6_readSort 74 = .ok (.iload_n 1, 1) := by decide +kernel
theorem dX6_readSort_75 : decode cX6_readSort 75 = .ok (.ireturn, 1) := by decide +kernel
theorem dX6_readSign_0 : decode cX6_readSign 0 = .ok (.aload_n 0, 1) := by decide +kernel
theorem dX6_readSign_1 : decode cX6_readSign 1 = .ok (.aload_n 0, 1) := by decide +kernel
theorem dX6_readSign_2 : decode cX6_readSign 2 = .ok (.getfield 26, 3) := by decide +kernel
theorem dX6_readSign_5 : decode cX6_readSign 5 = .ok (.aload_n 0, 1) := by decide +kernel
theorem dX6_readSign_6 : decode cX6_readSign 6 = .ok (.getfield 22, 3) := by decide +kernel
theorem dX6_readSign_9 : decode cX6_readSign 9 = .ok (.if_icmp .ge 20, 3) := by decide +kernel
theorem dX6_readSign_12 : decode cX6_readSign 12 = .ok (.aload_n 0, 1) := by decide +kernel
theorem dX6_readSign_13 : decode cX6_readSign 13 = .ok (.getfield 18, 3) := by decide +kernel
theorem dX6_readSign_16 : decode cX6_readSign 16 = .ok (.aload_n 0, 1) := by decide +kernel
theorem dX6_readSign_17 : decode cX6_readSign 17 = .ok (.getfield 26, 3) := by decide +kernel
theorem dX6_readSign_20 : decode cX6_readSign 20 = .ok (.iaload, 1) := by decide +kernel
theorem dX6_readSign_21 : decode cX6_readSign 21 = .ok (.iload_n 1, 1) := by decide +kernel
theorem dX6_readSign_22 : decode cX6_readSign 22 = .ok (.if_icmp .ne 7, 3) := by decide +kernel
theorem dX6_readSign_25 : decode cX6_readSign 25 = .ok (.iconst 1, 1) := by decide +kernel
theorem dX6_readSign_26 : decode cX6_readSign 26 = .ok (.goto 4, 3) := by decide +kernel
theorem dX6_readSign_29 : decode cX6_readSign 29 = .ok (.iconst 0, 1) := by decide +kernel
theorem dX6_readSign_30 : decode cX6_readSign 30 = .ok (.invokevirtual 68, 3) := by decide +kernel
theorem dX6_readSign_33 : decode cX6_readSign 33 = .ok (.return_, 1) := by decide +kernel
theorem dX6_step_0 : decode cX6_step 0 = .ok (.aload_n 0, 1) := by decide +kernel
theorem dX6_step_1 : decode cX6_step 1 = .ok (.getfield 29, 3) := by decide +kernel
theorem dX6_step_4 : decode cX6_step 4 = .ok (.ifCond .eq 4, 3) := by decide +kernel
theorem dX6_step_7 : decode cX6_step 7 = .ok (.return_, 1) := by decide +kernel
theorem dX6_step_8 : decode cX6_step 8 = .ok (.iload_n 1, 1) := by decide +kernel
theorem dX6_step_9 : decode cX6_step 9 = .ok (.ifCond .eq 16, 3) := by decide +kernel
theorem dX6_step_12 : decode cX6_step 12 = .ok (.aload_n 0, 1) := by decide +kernel
theorem dX6_step_13 : decode cX6_step 13 = .ok (.dup, 1) := by decide +kernel
theorem dX6_step_14 : decode cX6_step 14 = .ok (.getfield 26, 3) := by decide +kernel
theorem dX6_step_17 : decode cX6_step 17 = .ok (.iconst 1, 1) := by decide +kernel
theorem dX6_step_18 : decode cX6_step 18 = .ok (.iadd, 1) := by decide +kernel
theorem dX6_step_19 : decode cX6_step 19 = .ok (.putfield 26, 3) := by decide +kernel
theorem dX6_step_22 : decode cX6_step 22 = .ok (.goto 8, 3) := by decide +kernel
theorem dX6_step_25 : decode cX6_step 25 = .ok (.aload_n 0, 1) := by decide +kernel
theorem dX6_step_26 : decode cX6_step 26 = .ok (.iconst 1, 1) := by decide +kernel
theorem dX6_step_27 : decode cX6_step 27 = .ok (.putfield 29, 3) := by decide +kernel
theorem dX6_step_30 : decode cX6_step 30 = .ok (.return_, 1) := by decide +kernel
theorem dX6_readNumber_0 : decode cX6_readNumber 0 = .ok (.aload_n 0, 1) := by decide +kernel
theorem dX6_readNumber_1 : decode cX6_readNumber 1 = .ok (.getfield 29, 3) := by decide +kernel
theorem dX6_readNumber_4 : decode cX6_readNumber 4 = .ok (.ifCond .eq 5, 3) := by decide +kernel
theorem dX6_readNumber_7 : decode cX6_readNumber 7 = .ok (.iload_n 1, 1) := by decide +kernel
theorem dX6_readNumber_8 : decode cX6_readNumber 8 = .ok (.ireturn, 1) := by decide +kernel
theorem dX6_readNumber_9 : decode cX6_readNumber 9 = .ok (.iconst 0, 1) := by decide +kernel
theorem dX6_readNumber_10 : decode cX6_readNumber 10 = .ok (.istore_n 3, 1) := by decide +kernel
theorem dX6_readNumber_11 : decode cX6_readNumber 11 = .ok (.iconst 0, 1) := by decide +kernel
theorem dX6_readNumber_12 : decode cX6_readNumber 12 = .ok (.istore 4, 2) := by decide +kernel
theorem dX6_readNumber_14 : decode cX6_readNumber 14 = .ok (.aload_n 0, 1) := by decide +kernel
theorem dX6_readNumber_15 : decode cX6_readNumber 15 = .ok (.getfield 26, 3) := by decide +kernel
theorem dX6_readNumber_18 : decode cX6_readNumber 18 = .ok (.istore 5, 2) := by decide +kernel
theorem dX6_readNumber_20 : decode cX6_readNumber 20 = .ok (.iload 5, 2) := by decide +kernel
theorem dX6_readNumber_22 : decode cX6_readNumber 22 = .ok (.aload_n 0, 1) := by decide +kernel
theorem dX6_readNumber_23 : decode cX6_readNumber 23 = .ok (.getfield 22, 3) := by decide +kernel
theorem dX6_readNumber_26 : decode cX6_readNumber 26 = .ok (.if_icmp .ge 52, 3) := by decide +kernel
theorem dX6_readNumber_29 : decode cX6_readNumber 29 = .ok (.iload_n 3, 1) := by decide +kernel
theorem dX6_readNumber_30 : decode cX6_readNumber 30 = .ok (.iconst 3, 1) := by decide +kernel
theorem dX6_readNumber_31 : decode cX6_readNumber 31 = .ok (.if_icmp .ge 47, 3) := by decide +kernel
theorem dX6_readNumber_34 : decode cX6_readNumber 34 = .ok (.aload_n 0, 1) := by decide +kernel
theorem dX6_readNumber_35 : decode cX6_readNumber 35 = .ok (.getfield 18, 3) := by decide +kernel
theorem dX6_readNumber_38 : decode cX6_readNumber 38 = .ok (.iload 5, 2) := by decide +kernel
theorem dX6_readNumber_40 : decode cX6_readNumber 40 = .ok (.iaload, 1) := by decide +kernel
theorem dX6_readNumber_41 : decode cX6_readNumber 41 = .ok (.bipush 48, 2) := by decide +kernel
theorem dX6_readNumber_43 : decode cX6_readNumber 43 = .ok (.bipush 57, 2) := by decide +kernel
theorem dX6_readNumber_45 : decode cX6_readNumber 45 = .ok (.invokestatic 72, 3) := by decide +kernel
theorem dX6_readNumber_48 : decode cX6_readNumber 48 = .ok (.ifCond .eq 30, 3) := by decide +kernel
theorem dX6_readNumber_51 : decode cX6_readNumber 51 = .ok (.bipush 10, 2) := by decide +kernel
theorem dX6_readNumber_53 : decode cX6_readNumber 53 = .ok (.iload 4, 2) := by decide +kernel
theorem dX6_readNumber_55 : decode cX6_readNumber 55 = .ok (.imul, 1) := by decide +kernel
theorem dX6_readNumber_56 : decode cX6_readNumber 56 = .ok (.aload_n 0, 1) := by decide +kernel
theorem dX6_readNumber_57 : decode cX6_readNumber 57 = .ok (.getfield 18, 3) := by decide +kernel
theorem dX6_readNumber_60 : decode cX6_readNumber 60 = .ok (.iload 5, 2) := by decide +kernel
theorem dX6_readNumber_62 : decode cX6_readNumber 62 = .ok (.iaload, 1) := by decide +kernel
theorem dX6_readNumber_63 : decode cX6_readNumber 63 = .ok (.iadd, 1) := by decide +kernel
theorem dX6_readNumber_64 : decode cX6_readNumber 64 = .ok (.bipush 48, 2) := by decide +kernel
theorem dX6_readNumber_66 : decode cX6_readNumber 66 = .ok (.isub, 1) := by decide +kernel
theorem dX6_readNumber_67 : decode cX6_readNumber 67 = .ok (.istore 4, 2) := by decide +kernel
theorem dX6_readNumber_69 : decode cX6_readNumber 69 = .ok (.iinc 3 1, 3) := by decide +kernel
theorem dX6_readNumber_72 : decode cX6_readNumber 72 = .ok (.iinc 5 1, 3) := by decide +kernel
theorem dX6_readNumber_75 : decode cX6_readNumber 75 = .ok (.goto (-55), 3) := by decide +kernel
theorem dX6_readNumber_78 : decode cX6_readNumber 78 = .ok (.iload_n 3, 1) := by decide +kernel
theorem dX6_readNumber_79 : decode cX6_readNumber 79 = .ok (.iconst 1, 1) := by decide +kernel
theorem dX6_readNumber_80 : decode cX6_readNumber 80 = .ok (.iconst 2, 1) := by decide +kernel
theorem dX6_readNumber_81 : decode cX6_readNumber 81 = .ok (.invokestatic 72, 3) := by decide +kernel
theorem dX6_readNumber_84 : decode cX6_readNumber 84 = .ok (.ifCond .ne 11, 3) := by decide +kernel
theorem dX6_readNumber_87 : decode cX6_readNumber 87 = .ok (.aload_n 0, 1) := by decide +kernel
theorem dX6_readNumber_88 : decode cX6_readNumber 88 = .ok (.iconst 1, 1) := by decide +kernel
theorem dX6_readNumber_89 : decode cX6_readNumber 89 = .ok (.putfield 29, 3) := by decide +kernel
theorem dX6_readNumber_92 : decode cX6_readNumber 92 = .ok (.goto 31, 3) := by decide +kernel
theorem dX6_readNumber_95 : decode cX6_readNumber 95 = .ok (.iload 4, 2) := by decide +kernel
theorem dX6_readNumber_97 : decode cX6_readNumber 97 = .ok (.iload_n 1, 1) := by decide +kernel
theorem dX6_readNumber_98 : decode cX6_readNumber 98 = .ok (.iload_n 2, 1) := by decide +kernel
theorem dX6_readNumber_99 : decode cX6_readNumber 99 = .ok (.invokestatic 72, 3) := by decide +kernel
theorem dX6_readNumber_102 : decode cX6_readNumber 102 = .ok (.ifCond .ne 11, 3) := by decide +kernel
theorem dX6_readNumber_105 : decode cX6_readNumber 105 = .ok (.aload_n 0, 1) := by decide +kernel
theorem dX6_readNumber_106 : decode cX6_readNumber 106 = .ok (.iconst 2, 1) := by decide +kernel
theorem dX6_readNumber_107 : decode cX6_readNumber 107 = .ok (.putfield 29, 3) := by decide +kernel
theorem dX6_readNumber_110 : decode cX6_readNumber 110 = .ok (.goto 13, 3) := by decide +kernel
theorem dX6_readNumber_113 : decode cX6_readNumber 113 = .ok (.aload_n 0, 1) := by decide +kernel
theorem dX6_readNumber_114 : decode cX6_readNumber 114 = .ok (.dup, 1) := by decide +kernel
theorem dX6_readNumber_115 : decode cX6_readNumber 115 = .ok (.getfield 26, 3) := by decide +kernel
theorem dX6_readNumber_118 : decode cX6_readNumber 118 = .ok (.iload_n 3, 1) := by decide +kernel
theorem dX6_readNumber_119 : decode cX6_readNumber 119 = .ok (.iadd, 1) := by decide +kernel
theorem dX6_readNumber_120 : decode cX6_readNumber 120 = .ok (.putfield 26, 3) := by decide +kernel
theorem dX6_readNumber_123 : decode cX6_readNumber 123 = .ok (.iload 4, 2) := by decide +kernel
theorem dX6_readNumber_125 : decode cX6_readNumber 125 = .ok (.ireturn, 1) := by decide +kernel
theorem dX7_init_0 : decode cX7_init 0 = .ok (.aload_n 0, 1) := by decide +kernel
theorem dX7_init_1 : decode cX7_init 1 = .ok (.invokespecial 1, 3) := by decide +kernel
theorem dX7_init_4 : decode cX7_init 4 = .ok (.aload_n 0, 1) := by decide +kernel
theorem dX7_init_5 : decode cX7_init 5 = .ok (.bipush 8, 2) := by decide +kernel
theorem dX7_init_7 : decode cX7_init 7 = .ok (.anewarray 9, 3) := by decide +kernel
theorem dX7_init_10 : decode cX7_init 10 = .ok (.putfield 11, 3) := by decide +kernel
theorem dX7_init_13 : decode cX7_init 13 = .ok (.aload_n 0, 1) := by decide +kernel
theorem dX7_init_14 : decode cX7_init 14 = .ok (.new 15, 3) := by decide +kernel
theorem dX7_init_17 : decode cX7_init 17 = .ok (.dup, 1) := by decide +kernel
theorem dX7_init_18 : decode cX7_init 18 = .ok (.invokespecial 17, 3) := by decide +kernel
theorem dX7_init_21 : decode cX7_init 21 = .ok (.putfield 18, 3) := by decide +kernel
theorem dX7_init_24 : decode cX7_init 24 = .ok (.aload_n 0, 1) := by decide +kernel
theorem dX7_init_25 : decode cX7_init 25 = .ok (.new 22, 3) := by decide +kernel
theorem dX7_init_28 : decode cX7_init 28 = .ok (.dup, 1) := by decide +kernel
theorem dX7_init_29 : decode cX7_init 29 = .ok (.invokespecial 24, 3) := by decide +kernel
theorem dX7_init_32 : decode cX7_init 32 = .ok (.putfield 25, 3) := by decide +kernel
theorem dX7_init_35 : decode cX7_init 35 = .ok (.aload_n 0, 1) := by decide +kernel
theorem dX7_init_36 : decode cX7_init 36 = .ok (.iconst 2, 1) := by decide +kernel
theorem dX7_init_37 : decode cX7_init 37 = .ok (.anewarray 22, 3) := by decide +kernel
theorem dX7_init_40 : decode cX7_init 40 = .ok (.putfield 29, 3) := by decide +kernel
theorem dX7_init_43 : decode cX7_init 43 = .ok (.aload_n 0, 1) := by decide +kernel
theorem dX7_init_44 : decode cX7_init 44 = .ok (.new 33, 3) := by decide +kernel
theorem dX7_init_47 : decode cX7_init 47 = .ok (.dup, 1) := by decide +kernel
theorem dX7_init_48 : decode cX7_init 48 = .ok (.invokespecial 35, 3) := by decide +kernel
theorem dX7_init_51 : decode cX7_init 51 = .ok (.putfield 36, 3) := by decide +kernel
theorem dX7_init_54 : decode cX7_init 54 = .ok (.aload_n 0, 1) := by decide +kernel
theorem dX7_init_55 : decode cX7_init 55 = .ok (.new 40, 3) := by decide +kernel
theorem dX7_init_58 : decode cX7_init 58 = .ok (.dup, 1) := by decide +kernel
theorem dX7_init_59 : decode cX7_init 59 = .ok (.invokespecial 42, 3) := by decide +kernel
theorem dX7_init_62 : decode cX7_init 62 = .ok (.putfield 43, 3) := by decide +kernel
theorem dX7_init_65 : decode cX7_init 65 = .ok (.aload_n 0, 1) := by decide +kernel
theorem dX7_init_66 : decode cX7_init 66 = .ok (.new 47, 3) := by decide +kernel
theorem dX7_init_69 : decode cX7_init 69 = .ok (.dup, 1) := by decide +kernel
theorem dX7_init_70 : decode cX7_init 70 = .ok (.invokespecial 49, 3) := by decide +kernel
theorem dX7_init_73 : decode cX7_init 73 = .ok (.putfield 50, 3) := by decide +kernel
theorem dX7_init_76 : decode cX7_init 76 = .ok (.aload_n 0, 1) := by decide +kernel
theorem dX7_init_77 : decode cX7_init 77 = .ok (.new 54, 3) := by decide +kernel
theorem dX7_init_80 : decode cX7_init 80 = .ok (.dup, 1) := by decide +kernel
theorem dX7_init_81 : decode cX7_init 81 = .ok (.invokespecial 56, 3) := by decide +kernel
theorem dX7_init_84 : decode cX7_init 84 = .ok (.putfield 57, 3) := by decide +kernel
theorem dX7_init_87 : decode cX7_init 87 = .ok (.iconst 0, 1) := by decide +kernel
theorem dX7_init_88 : decode cX7_init 88 = .ok (.istore_n 1, 1) := by decide +kernel
theorem dX7_init_89 : decode cX7_init 89 = .ok (.iload_n 1, 1) := by decide +kernel
theorem dX7_init_90 : decode cX7_init 90 = .ok (.bipush 8, 2) := by decide +kernel
theorem dX7_init_92 : decode cX7_init 92 = .ok (.if_icmp .ge 22, 3) := by decide +kernel
theorem dX7_init_95 : decode cX7_init 95 = .ok (.aload_n 0, 1) := by decide +kernel
theorem dX7_init_96 : decode cX7_init 96 = .ok (.getfield 11, 3) := by decide +kernel
theorem dX7_init_99 : decode cX7_init 99 = .ok (.iload_n 1, 1) := by decide +kernel
theorem dX7_init_100 : decode cX7_init 100 = .ok (.new 9, 3) := by decide +kernel
theorem dX7_init_103 : decode cX7_init 103 = .ok (.dup, 1) := by decide +kernel
theorem dX7_init_104 : decode cX7_init 104 = .ok (.invokespecial 61, 3) := by decide +kernel
theorem dX7_init_107 : decode cX7_init 107 = .ok (.aastore, 1) := by decide +kernel
theorem dX7_init_108 : decode cX7_init 108 = .ok (.iinc 1 1, 3) := by decide +kernel
theorem dX7_init_111 : decode cX7_init 111 = .ok (.goto (-22), 3) := by decide +kernel
theorem dX7_init_114 : decode cX7_init 114 = .ok (.iconst 0, 1) := by decide +kernel
theorem dX7_init_115 : decode cX7_init 115 = .ok (.istore_n 1, 1) := by decide +kernel
theorem dX7_init_116 : decode cX7_init 116 = .ok (.iload_n 1, 1) := by decide +kernel
theorem dX7_init_117 : decode cX7_init 117 = .ok (.iconst 2, 1) := by decide +kernel
theorem dX7_init_118 : decode cX7_init 118 = .ok (.if_icmp .ge 22, 3) := by decide +kernel
theorem dX7_init_121 : decode cX7_init 121 = .ok (.aload_n 0, 1) := by decide +kernel
theorem dX7_init_122 : decode cX7_init 122 = .ok (.getfield 29, 3) := by decide +kernel
theorem dX7_init_125 : decode cX7_init 125 = .ok (.iload_n 1, 1) := by decide +kernel
theorem dX7_init_126 : decode cX7_init 126 = .ok (.new 22, 3) := by decide +kernel
theorem dX7_init_129 : decode cX7_init 129 = .ok (.dup, 1) := by decide +kernel
theorem dX7_init_130 : decode cX7_init 130 = .ok (.invokespecial 24, 3) := by decide +kernel
theorem dX7_init_133 : decode cX7_init 133 = .ok (.aastore, 1) := by decide +kernel
theorem dX7_init_134 : decode cX7_init 134 = .ok (.iinc 1 1, 3) := by decide +kernel
theorem dX7_init_137 : decode cX7_init 137 = .ok (.goto (-21), 3) := by decide +kernel
theorem dX7_init_140 : decode cX7_init 140 = .ok (.return_, 1) := by decide +kernel
theorem dX7_row_0 : decode cX7_row 0 = .ok (.iload_n 1, 1) := by decide +kernel
theorem dX7_row_1 : decode cX7_row 1 = .ok (.invokestatic 62, 3) := by decide +kernel
theorem dX7_row_4 : decode cX7_row 4 = .ok (.ifCond .eq 18, 3) := by decide +kernel
theorem dX7_row_7 : decode cX7_row 7 = .ok (.iload_n 2, 1) := by decide +kernel
theorem dX7_row_8 : decode cX7_row 8 = .ok (.iconst 0, 1) := by decide +kernel
theorem dX7_row_9 : decode cX7_row 9 = .ok (.iconst 2, 1) := by decide +kernel
theorem dX7_row_10 : decode cX7_row 10 = .ok (.invokestatic 66, 3) := by decide +kernel
theorem dX7_row_13 : decode cX7_row 13 = .ok (.ifCond .eq 9, 3) := by decide +kernel
theorem dX7_row_16 : decode cX7_row 16 = .ok (.iload_n 3, 1) := by decide +kernel
theorem dX7_row_17 : decode cX7_row 17 = .ok (.bipush 40, 2) := by decide +kernel
theorem dX7_row_19 : decode cX7_row 19 = .ok (.if_icmp .le 6, 3) := by decide +kernel
theorem dX7_row_22 : decode cX7_row 22 = .ok (.ldc 70, 2) := by decide +kernel
theorem dX7_row_24 : decode cX7_row 24 = .ok (.ireturn, 1) := by decide +kernel
theorem dX7_row_25 : decode cX7_row 25 = .ok (.iload_n 3, 1) := by decide +kernel
theorem dX7_row_26 : decode cX7_row 26 = .ok (.ifCond .ge 9, 3) := by decide +kernel
theorem dX7_row_29 : decode cX7_row 29 = .ok (.aload_n 0, 1) := by decide +kernel
theorem dX7_row_30 : decode cX7_row 30 = .ok (.iconst 4, 1) := by decide +kernel
theorem dX7_row_31 : decode cX7_row 31 = .ok (.invokevirtual 71, 3) := by decide +kernel
theorem dX7_row_34 : decode cX7_row 34 = .ok (.ireturn, 1) := by decide +kernel
theorem dX7_row_35 : decode cX7_row 35 = .ok (.aload_n 0, 1) := by decide +kernel
theorem dX7_row_36 : decode cX7_row 36 = .ok (.getfield 11, 3) := by decide +kernel
theorem dX7_row_39 : decode cX7_row 39 = .ok (.iload_n 1, 1) := by decide +kernel
theorem dX7_row_40 : decode cX7_row 40 = .ok (.aaload, 1) := by decide +kernel
theorem dX7_row_41 : decode cX7_row 41 = .ok (.iload_n 2, 1) := by decide +kernel
theorem dX7_row_42 : decode cX7_row 42 = .ok (.iload_n 3, 1) := by decide +kernel
theorem dX7_row_43 : decode cX7_row 43 = .ok (.invokevirtual 75, 3) := by decide +kernel
theorem dX7_row_46 : decode cX7_row 46 = .ok (.aload_n 0, 1) := by decide +kernel
theorem dX7_row_47 : decode cX7_row 47 = .ok (.iload_n 3, 1) := by decide +kernel
theorem dX7_row_48 : decode cX7_row 48 = .ok (.invokevirtual 79, 3) := by decide +kernel
theorem dX7_row_51 : decode cX7_row 51 = .ok (.ireturn, 1) := by decide +kernel
theorem dX7_set_0 : decode cX7_set 0 = .ok (.iload_n 1, 1) := by decide +kernel
theorem dX7_set_1 : decode cX7_set 1 = .ok (.invokestatic 62, 3) := by decide +kernel
theorem dX7_set_4 : decode cX7_set 4 = .ok (.ifCond .ne 6, 3) := by decide +kernel
theorem dX7_set_7 : decode cX7_set 7 = .ok (.ldc 70, 2) := by decide +kernel
theorem dX7_set_9 : decode cX7_set 9 = .ok (.ireturn, 1) := by decide +kernel
theorem dX7_set_10 : decode cX7_set 10 = .ok (.aload_n 0, 1) := by decide +kernel
theorem dX7_set_11 : decode cX7_set 11 = .ok (.getfield 11, 3) := by decide +kernel
theorem dX7_set_14 : decode cX7_set 14 = .ok (.iload_n 1, 1) := by decide +kernel
theorem dX7_set_15 : decode cX7_set 15 = .ok (.aaload, 1) := by decide +kernel
theorem dX7_set_16 : decode cX7_set 16 = .ok (.iload_n 2, 1) := by decide +kernel
theorem dX7_set_17 : decode cX7_set 17 = .ok (.iconst 1, 1) := by decide +kernel
theorem dX7_set_18 : decode cX7_set 18 = .ok (.invokevirtual 82, 3) := by decide +kernel
theorem dX7_set_21 : decode cX7_set 21 = .ok (.istore 4, 2) := by decide +kernel
theorem dX7_set_23 : decode cX7_set 23 = .ok (.iload 4, 2) := by decide +kernel
theorem dX7_set_25 : decode cX7_set 25 = .ok (.ifCond .eq 10, 3) := by decide +kernel
theorem dX7_set_28 : decode cX7_set 28 = .ok (.aload_n 0, 1) := by decide +kernel
theorem dX7_set_29 : decode cX7_set 29 = .ok (.iload 4, 2) := by decide +kernel
theorem dX7_set_31 : decode cX7_set 31 = .ok (.invokevirtual 71, 3) := by decide +kernel
theorem dX7_set_34 : decode cX7_set 34 = .ok (.ireturn, 1) := by decide +kernel
theorem dX7_set_35 : decode cX7_set 35 = .ok (.aload_n 0, 1) := by decide +kernel
theorem dX7_set_36 : decode cX7_set 36 = .ok (.aload_n 0, 1) := by decide +kernel
theorem dX7_set_37 : decode cX7_set 37 = .ok (.getfield 11, 3) := by decide +kernel
theorem dX7_set_40 : decode cX7_set 40 = .ok (.iload_n 1, 1) := by decide +kernel
theorem dX7_set_41 : decode cX7_set 41 = .ok (.aaload, 1) := by decide +kernel
theorem dX7_set_42 : decode cX7_set 42 = .ok (.iload_n 2, 1) := by decide +kernel
theorem dX7_set_43 : decode cX7_set 43 = .ok (.iload_n 3, 1) := by decide +kernel
theorem dX7_set_44 : decode cX7_set 44 = .ok (.invokevirtual 86, 3) := by decide +kernel
theorem dX7_set_47 : decode cX7_set 47 = .ok (.invokevirtual 79, 3) := by decide +kernel
theorem dX7_set_50 : decode cX7_set 50 = .ok (.ireturn, 1) := by decide +kernel
theorem dX7_copy_0 : decode cX7_copy 0 = .ok (.iload_n 1, 1) := by decide +kernel
theorem dX7_copy_1 : decode cX7_copy 1 = .ok (.invokestatic 62, 3) := by decide +kernel
theorem dX7_copy_4 : decode cX7_copy 4 = .ok (.ifCond .eq 10, 3) := by decide +kernel
theorem dX7_copy_7 : decode cX7_copy 7 = .ok (.iload_n 3, 1) := by decide +kernel
theorem dX7_copy_8 : decode cX7_copy 8 = .ok (.invokestatic 62, 3) := by decide +kernel
theorem dX7_copy_11 : decode cX7_copy 11 = .ok (.ifCond .ne 6, 3) := by decide +kernel
theorem dX7_copy_14 : decode cX7_copy 14 = .ok (.ldc 70, 2) := by decide +kernel
theorem dX7_copy_16 : decode cX7_copy 16 = .ok (.ireturn, 1) := by decide +kernel
theorem dX7_copy_17 : decode cX7_copy 17 = .ok (.aload_n 0, 1) := by decide +kernel
theorem dX7_copy_18 : decode cX7_copy 18 = .ok (.getfield 11, 3) := by decide +kernel
theorem dX7_copy_21 : decode cX7_copy 21 = .ok (.iload_n 1, 1) := by decide +kernel
theorem dX7_copy_22 : decode cX7_copy 22 = .ok (.aaload, 1) := by decide +kernel
theorem dX7_copy_23 : decode cX7_copy 23 = .ok (.iload_n 2, 1) := by decide +kernel
theorem dX7_copy_24 : decode cX7_copy 24 = .ok (.aload_n 0, 1) := by decide +kernel
theorem dX7_copy_25 : decode cX7_copy 25 = .ok (.getfield 11, 3) := by decide +kernel
theorem dX7_copy_28 : decode cX7_copy 28 = .ok (.iload_n 3, 1) := by decide +kernel
theorem dX7_copy_29 : decode cX7_copy 29 = .ok (.aaload, 1) := by decide +kernel
theorem dX7_copy_30 : decode cX7_copy 30 = .ok (.iload 4, 2) := by decide +kernel
theorem dX7_copy_32 : decode cX7_copy 32 = .ok (.iload 5, 2) := by decide +kernel
theorem dX7_copy_34 : decode cX7_copy 34 = .ok (.invokestatic 89, 3) := by decide +kernel
theorem dX7_copy_37 : decode cX7_copy 37 = .ok (.istore 6, 2) := by decide +kernel
theorem dX7_copy_39 : decode cX7_copy 39 = .ok (.iload 6, 2) := by decide +kernel
theorem dX7_copy_41 : decode cX7_copy 41 = .ok (.ifCond .eq 10, 3) := by decide +kernel
theorem dX7_copy_44 : decode cX7_copy 44 = .ok (.aload_n 0, 1) := by decide +kernel
theorem dX7_copy_45 : decode cX7_copy 45 = .ok (.iload 6, 2) := by decide +kernel
theorem dX7_copy_47 : decode cX7_copy 47 = .ok (.invokevirtual 71, 3) := by decide +kernel
theorem dX7_copy_50 : decode cX7_copy 50 = .ok (.ireturn, 1) := by decide +kernel
theorem dX7_copy_51 : decode cX7_copy 51 = .ok (.aload_n 0, 1) := by decide +kernel
theorem dX7_copy_52 : decode cX7_copy 52 = .ok (.getfield 11, 3) := by decide +kernel
theorem dX7_copy_55 : decode cX7_copy 55 = .ok (.iload_n 1, 1) := by decide +kernel
theorem dX7_copy_56 : decode cX7_copy 56 = .ok (.aaload, 1) := by decide +kernel
theorem dX7_copy_57 : decode cX7_copy 57 = .ok (.getfield 93, 3) := by decide +kernel
theorem dX7_copy_60 : decode cX7_copy 60 = .ok (.iload_n 2, 1) := by decide +kernel
theorem dX7_copy_61 : decode cX7_copy 61 = .ok (.aload_n 0, 1) := by decide +kernel
theorem dX7_copy_62 : decode cX7_copy 62 = .ok (.getfield 11, 3) := by decide +kernel
theorem dX7_copy_65 : decode cX7_copy 65 = .ok (.iload_n 3, 1) := by decide +kernel
theorem dX7_copy_66 : decode cX7_copy 66 = .ok (.aaload, 1) := by decide +kernel
theorem dX7_copy_67 : decode cX7_copy 67 = .ok (.getfield 93, 3) := by decide +kernel
theorem dX7_copy_70 : decode cX7_copy 70 = .ok (.iload 4, 2) := by decide +kernel
theorem dX7_copy_72 : decode cX7_copy 72 = .ok (.iload 5, 2) := by decide +kernel
theorem dX7_copy_74 : decode cX7_copy 74 = .ok (.invokestatic 97, 3) := by decide +kernel
theorem dX7_copy_77 : decode cX7_copy 77 = .ok (.aload_n 0, 1) := by decide +kernel
theorem dX7_copy_78 : decode cX7_copy 78 = .ok (.iload 5, 2) := by decide +kernel
theorem dX7_copy_80 : decode cX7_copy 80 = .ok (.invokevirtual 79, 3) := by decide +kernel
theorem dX7_copy_83 : decode cX7_copy 83 = .ok (.ireturn, 1) := by decide +kernel
theorem dX7_drop_0 : decode cX7_drop 0 = .ok (.iload_n 1, 1) := by decide +kernel
theorem dX7_drop_1 : decode cX7_drop 1 = .ok (.invokestatic 62, 3) := by decide +kernel
theorem dX7_drop_4 : decode cX7_drop 4 = .ok (.ifCond .ne 6, 3) := by decide +kernel
theorem dX7_drop_7 : decode cX7_drop 7 = .ok (.ldc 70, 2) := by decide +kernel
theorem dX7_drop_9 : decode cX7_drop 9 = .ok (.ireturn, 1) := by decide +kernel
theorem dX7_drop_10 : decode cX7_drop 10 = .ok (.aload_n 0, 1) := by decide +kernel
theorem dX7_drop_11 : decode cX7_drop 11 = .ok (.getfield 11, 3) := by decide +kernel
theorem dX7_drop_14 : decode cX7_drop 14 = .ok (.iload_n 1, 1) := by decide +kernel
theorem dX7_drop_15 : decode cX7_drop 15 = .ok (.aaload, 1) := by decide +kernel
theorem dX7_drop_16 : decode cX7_drop 16 = .ok (.getfield 103, 3) := by decide +kernel
theorem dX7_drop_19 : decode cX7_drop 19 = .ok (.ifCond .eq 9, 3) := by decide +kernel
theorem dX7_drop_22 : decode cX7_drop 22 = .ok (.aload_n 0, 1) := by decide +kernel
theorem dX7_drop_23 : decode cX7_drop 23 = .ok (.iconst 1, 1) := by decide +kernel
theorem dX7_drop_24 : decode cX7_drop 24 = .ok (.invokevirtual 71, 3) := by decide +kernel
theorem dX7_drop_27 : decode cX7_drop 27 = .ok (.ireturn, 1) := by decide +kernel
theorem dX7_drop_28 : decode cX7_drop 28 = .ok (.aload_n 0, 1) := by decide +kernel
theorem dX7_drop_29 : decode cX7_drop 29 = .ok (.getfield 11, 3) := by decide +kernel
theorem dX7_drop_32 : decode cX7_drop 32 = .ok (.iload_n 1, 1) := by decide +kernel
theorem dX7_drop_33 : decode cX7_drop 33 = .ok (.aaload, 1) := by decide +kernel
theorem dX7_drop_34 : decode cX7_drop 34 = .ok (.iconst 1, 1) := by decide +kernel
theorem dX7_drop_35 : decode cX7_drop 35 = .ok (.putfield 103, 3) := by decide +kernel
theorem dX7_drop_38 : decode cX7_drop 38 = .ok (.aload_n 0, 1) := by decide +kernel
theorem dX7_drop_39 : decode cX7_drop 39 = .ok (.aload_n 0, 1) := by decide +kernel
theorem dX7_drop_40 : decode cX7_drop 40 = .ok (.getfield 11, 3) := by decide +kernel
theorem dX7_drop_43 : decode cX7_drop 43 = .ok (.iload_n 1, 1) := by decide +kernel
theorem dX7_drop_44 : decode cX7_drop 44 = .ok (.aaload, 1) := by decide +kernel
theorem dX7_drop_45 : decode cX7_drop 45 = .ok (.getfield 107, 3) := by decide +kernel
theorem dX7_drop_48 : decode cX7_drop 48 = .ok (.invokevirtual 79, 3) := by decide +kernel
theorem dX7_drop_51 : decode cX7_drop 51 = .ok (.ireturn, 1) := by decide +kernel
theorem dX7_feed_0 : decode cX7_feed 0 = .ok (.iload_n 1, 1) := by decide +kernel
theorem dX7_feed_1 : decode cX7_feed 1 = .ok (.iconst 0, 1) := by decide +kernel
theorem dX7_feed_2 : decode cX7_feed 2 = .ok (.sipush 255, 3) := by decide +kernel
theorem dX7_feed_5 : decode cX7_feed 5 = .ok (.invokestatic 66, 3) := by decide +kernel
theorem dX7_feed_8 : decode cX7_feed 8 = .ok (.ifCond .ne 6, 3) := by decide +kernel
theorem dX7_feed_11 : decode cX7_feed 11 = .ok (.ldc 70, 2) := by decide +kernel
theorem dX7_feed_13 : decode cX7_feed 13 = .ok (.ireturn, 1) := by decide +kernel
theorem dX7_feed_14 : decode cX7_feed 14 = .ok (.aload_n 0, 1) := by decide +kernel
theorem dX7_feed_15 : decode cX7_feed 15 = .ok (.getfield 18, 3) := by decide +kernel
theorem dX7_feed_18 : decode cX7_feed 18 = .ok (.getfield 111, 3) := by decide +kernel
theorem dX7_feed_21 : decode cX7_feed 21 = .ok (.bipush 100, 2) := by decide +kernel
theorem dX7_feed_23 : decode cX7_feed 23 = .ok (.if_icmp .lt 6, 3) := by decide +kernel
theorem dX7_feed_26 : decode cX7_feed 26 = .ok (.ldc 114, 2) := by decide +kernel
theorem dX7_feed_28 : decode cX7_feed 28 = .ok (.ireturn, 1) := by decide +kernel
theorem dX7_feed_29 : decode cX7_feed 29 = .ok (.aload_n 0, 1) := by decide +kernel
theorem dX7_feed_30 : decode cX7_feed 30 = .ok (.getfield 18, 3) := by decide +kernel
theorem dX7_feed_33 : decode cX7_feed 33 = .ok (.iload_n 1, 1) := by decide +kernel
theorem dX7_feed_34 : decode cX7_feed 34 = .ok (.invokevirtual 115, 3) := by decide +kernel
theorem dX7_feed_37 : decode cX7_feed 37 = .ok (.ireturn, 1) := by decide +kernel
theorem dX7_street_0 : decode cX7_street 0 = .ok (.aload_n 0, 1) := by decide +kernel
theorem dX7_street_1 : decode cX7_street 1 = .ok (.getfield 18, 3) := by decide +kernel
theorem dX7_street_4 : decode cX7_street 4 = .ok (.invokevirtual 118, 3) := by decide +kernel
theorem dX7_street_7 : decode cX7_street 7 = .ok (.aload_n 0, 1) := by decide +kernel
theorem dX7_street_8 : decode cX7_street 8 = .ok (.getfield 18, 3) := by decide +kernel
theorem dX7_street_11 : decode cX7_street 11 = .ok (.iconst 0, 1) := by decide +kernel
theorem dX7_street_12 : decode cX7_street 12 = .ok (.putfield 111, 3) := by decide +kernel
theorem dX7_street_15 : decode cX7_street 15 = .ok (.aload_n 0, 1) := by decide +kernel
theorem dX7_street_16 : decode cX7_street 16 = .ok (.getfield 18, 3) := by decide +kernel
theorem dX7_street_19 : decode cX7_street 19 = .ok (.getfield 121, 3) := by decide +kernel
theorem dX7_street_22 : decode cX7_street 22 = .ok (.ifCond .eq 25, 3) := by decide +kernel
theorem dX7_street_25 : decode cX7_street 25 = .ok (.aload_n 0, 1) := by decide +kernel
theorem dX7_street_26 : decode cX7_street 26 = .ok (.aload_n 0, 1) := by decide +kernel
theorem dX7_street_27 : decode cX7_street 27 = .ok (.getfield 18, 3) := by decide +kernel
theorem dX7_street_30 : decode cX7_street 30 = .ok (.getfield 121, 3) := by decide +kernel
theorem dX7_street_33 : decode cX7_street 33 = .ok (.putfield 124, 3) := by decide +kernel
theorem dX7_street_36 : decode cX7_street 36 = .ok (.ldc 127, 2) := by decide +kernel
theorem dX7_street_38 : decode cX7_street 38 = .ok (.aload_n 0, 1) := by decide +kernel
theorem dX7_street_39 : decode cX7_street 39 = .ok (.getfield 18, 3) := by decide +kernel
theorem dX7_street_42 : decode cX7_street 42 = .ok (.getfield 128, 3) := by decide +kernel
theorem dX7_street_45 : decode cX7_street 45 = .ok (.isub, 1) := by decide +kernel
theorem dX7_street_46 : decode cX7_street 46 = .ok (.ireturn, 1) := by decide +kernel
theorem dX7_street_47 : decode cX7_street 47 = .ok (.aload_n 0, 1) := by decide +kernel
theorem dX7_street_48 : decode cX7_street 48 = .ok (.getfield 25, 3) := by decide +kernel
theorem dX7_street_51 : decode cX7_street 51 = .ok (.aload_n 0, 1) := by decide +kernel
theorem dX7_street_52 : decode cX7_street 52 = .ok (.getfield 18, 3) := by decide +kernel
theorem dX7_street_55 : decode cX7_street 55 = .ok (.getfield 131, 3) := by decide +kernel
theorem dX7_street_58 : decode cX7_street 58 = .ok (.invokevirtual 134, 3) := by decide +kernel
theorem dX7_street_61 : decode cX7_street 61 = .ok (.aload_n 0, 1) := by decide +kernel
theorem dX7_street_62 : decode cX7_street 62 = .ok (.getfield 36, 3) := by decide +kernel
theorem dX7_street_65 : decode cX7_street 65 = .ok (.invokevirtual 138, 3) := by decide +kernel
theorem dX7_street_68 : decode cX7_street 68 = .ok (.aload_n 0, 1) := by decide +kernel
theorem dX7_street_69 : decode cX7_street 69 = .ok (.getfield 25, 3) := by decide +kernel
theorem dX7_street_72 : decode cX7_street 72 = .ok (.getfield 141, 3) := by decide +kernel
theorem dX7_street_75 : decode cX7_street 75 = .ok (.ireturn, 1) := by decide +kernel
theorem dX7_fault_0 : decode cX7_fault 0 = .ok (.aload_n 0, 1) := by decide +kernel
theorem dX7_fault_1 : decode cX7_fault 1 = .ok (.getfield 124, 3) := by decide +kernel
theorem dX7_fault_4 : decode cX7_fault 4 = .ok (.ireturn, 1) := by decide +kernel
theorem dX7_undo_0 : decode cX7_undo 0 = .ok (.aload_n 0, 1) := by decide +kernel
theorem dX7_undo_1 : decode cX7_undo 1 = .ok (.getfield 36, 3) := by decide +kernel
theorem dX7_undo_4 : decode cX7_undo 4 = .ok (.getfield 144, 3) := by decide +kernel
theorem dX7_undo_7 : decode cX7_undo 7 = .ok (.ifCond .ne 6, 3) := by decide +kernel
theorem dX7_undo_10 : decode cX7_undo 10 = .ok (.ldc 145, 2) := by decide +kernel
theorem dX7_undo_12 : decode cX7_undo 12 = .ok (.ireturn, 1) := by decide +kernel
theorem dX7_undo_13 : decode cX7_undo 13 = .ok (.aload_n 0, 1) := by decide +kernel
theorem dX7_undo_14 : decode cX7_undo 14 = .ok (.getfield 36, 3) := by decide +kernel
theorem dX7_undo_17 : decode cX7_undo 17 = .ok (.aload_n 0, 1) := by decide +kernel
theorem dX7_undo_18 : decode cX7_undo 18 = .ok (.getfield 25, 3) := by decide +kernel
theorem dX7_undo_21 : decode cX7_undo 21 = .ok (.invokevirtual 146, 3) := by decide +kernel
theorem dX7_undo_24 : decode cX7_undo 24 = .ok (.aload_n 0, 1) := by decide +kernel
theorem dX7_undo_25 : decode cX7_undo 25 = .ok (.getfield 36, 3) := by decide +kernel
theorem dX7_undo_28 : decode cX7_undo 28 = .ok (.getfield 144, 3) := by decide +kernel
theorem dX7_undo_31 : decode cX7_undo 31 = .ok (.ireturn, 1) := by decide +kernel
theorem dX7_hours_0 : decode cX7_hours 0 = .ok (.aload_n 0, 1) := by decide +kernel
theorem dX7_hours_1 : decode cX7_hours 1 = .ok (.invokevirtual 149, 3) := by decide +kernel
theorem dX7_hours_4 : decode cX7_hours 4 = .ok (.ifCond .eq 6, 3) := by decide +kernel
theorem dX7_hours_7 : decode cX7_hours 7 = .ok (.ldc 145, 2) := by decide +kernel
theorem dX7_hours_9 : decode cX7_hours 9 = .ok (.ireturn, 1) := by decide +kernel
theorem dX7_hours_10 : decode cX7_hours 10 = .ok (.iload_n 1, 1) := by decide +kernel
theorem dX7_hours_11 : decode cX7_hours 11 = .ok (.iconst 1, 1) := by decide +kernel
theorem dX7_hours_12 : decode cX7_hours 12 = .ok (.bipush 24, 2) := by decide +kernel
theorem dX7_hours_14 : decode cX7_hours 14 = .ok (.invokestatic 66, 3) := by decide +kernel
theorem dX7_hours_17 : decode cX7_hours 17 = .ok (.ifCond .ne 6, 3) := by decide +kernel
theorem dX7_hours_20 : decode cX7_hours 20 = .ok (.ldc 70, 2) := by decide +kernel
theorem dX7_hours_22 : decode cX7_hours 22 = .ok (.ireturn, 1) := by decide +kernel
theorem dX7_hours_23 : decode cX7_hours 23 = .ok (.aload_n 0, 1) := by decide +kernel
theorem dX7_hours_24 : decode cX7_hours 24 = .ok (.getfield 25, 3) := by decide +kernel
theorem dX7_hours_27 : decode cX7_hours 27 = .ok (.getfield 153, 3) := by decide +kernel
theorem dX7_hours_30 : decode cX7_hours 30 = .ok (.iload_n 1, 1) := by decide +kernel
theorem dX7_hours_31 : decode cX7_hours 31 = .ok (.iadd, 1) := by decide +kernel
theorem dX7_hours_32 : decode cX7_hours 32 = .ok (.sipush 999, 3) := by decide +kernel
theorem dX7_hours_35 : decode cX7_hours 35 = .ok (.if_icmp .le 6, 3) := by decide +kernel
theorem dX7_hours_38 : decode cX7_hours 38 = .ok (.ldc 114, 2) := by decide +kernel
theorem dX7_hours_40 : decode cX7_hours 40 = .ok (.ireturn, 1) := by decide +kernel
theorem dX7_hours_41 : decode cX7_hours 41 = .ok (.iconst 0, 1) := by decide +kernel
theorem dX7_hours_42 : decode cX7_hours 42 = .ok (.istore_n 2, 1) := by decide +kernel
theorem dX7_hours_43 : decode cX7_hours 43 = .ok (.iload_n 2, 1) := by decide +kernel
theorem dX7_hours_44 : decode cX7_hours 44 = .ok (.iload_n 1, 1) := by decide +kernel
theorem dX7_hours_45 : decode cX7_hours 45 = .ok (.if_icmp .ge 27, 3) := by decide +kernel
theorem dX7_hours_48 : decode cX7_hours 48 = .ok (.aload_n 0, 1) := by decide +kernel
theorem dX7_hours_49 : decode cX7_hours 49 = .ok (.getfield 36, 3) := by decide +kernel
theorem dX7_hours_52 : decode cX7_hours 52 = .ok (.aload_n 0, 1) := by decide +kernel
theorem dX7_hours_53 : decode cX7_hours 53 = .ok (.getfield 25, 3) := by decide +kernel
theorem dX7_hours_56 : decode cX7_hours 56 = .ok (.invokevirtual 156, 3) := by decide +kernel
theorem dX7_hours_59 : decode cX7_hours 59 = .ok (.aload_n 0, 1) := by decide +kernel
theorem dX7_hours_60 : decode cX7_hours 60 = .ok (.getfield 25, 3) := by decide +kernel
theorem dX7_hours_63 : decode cX7_hours 63 = .ok (.invokevirtual 159, 3) := by decide +kernel
theorem dX7_hours_66 : decode cX7_hours 66 = .ok (.iinc 2 1, 3) := by decide +kernel
theorem dX7_hours_69 : decode cX7_hours 69 = .ok (.goto (-26), 3) := by decide +kernel
theorem dX7_hours_72 : decode cX7_hours 72 = .ok (.aload_n 0, 1) := by decide +kernel
theorem dX7_hours_73 : decode cX7_hours 73 = .ok (.getfield 25, 3) := by decide +kernel
theorem dX7_hours_76 : decode cX7_hours 76 = .ok (.invokevirtual 162, 3) := by decide +kernel
theorem dX7_hours_79 : decode cX7_hours 79 = .ok (.ireturn, 1) := by decide +kernel
theorem dX7_lash_0 : decode cX7_lash 0 = .ok (.aload_n 0, 1) := by decide +kernel
theorem dX7_lash_1 : decode cX7_lash 1 = .ok (.iload_n 1, 1) := by decide +kernel
theorem dX7_lash_2 : decode cX7_lash 2 = .ok (.invokevirtual 166, 3) := by decide +kernel
theorem dX7_lash_5 : decode cX7_lash 5 = .ok (.ifCond .ne 6, 3) := by decide +kernel
theorem dX7_lash_8 : decode cX7_lash 8 = .ok (.ldc 70, 2) := by decide +kernel
theorem dX7_lash_10 : decode cX7_lash 10 = .ok (.ireturn, 1) := by decide +kernel
theorem dX7_lash_11 : decode cX7_lash 11 = .ok (.aload_n 0, 1) := by decide +kernel
theorem dX7_lash_12 : decode cX7_lash 12 = .ok (.getfield 25, 3) := by decide +kernel
theorem dX7_lash_15 : decode cX7_lash 15 = .ok (.getfield 169, 3) := by decide +kernel
theorem dX7_lash_18 : decode cX7_lash 18 = .ok (.iload_n 1, 1) := by decide +kernel
theorem dX7_lash_19 : decode cX7_lash 19 = .ok (.iaload, 1) := by decide +kernel
theorem dX7_lash_20 : decode cX7_lash 20 = .ok (.ifCond .ne 6, 3) := by decide +kernel
theorem dX7_lash_23 : decode cX7_lash 23 = .ok (.ldc 145, 2) := by decide +kernel
theorem dX7_lash_25 : decode cX7_lash 25 = .ok (.ireturn, 1) := by decide +kernel
theorem dX7_lash_26 : decode cX7_lash 26 = .ok (.aload_n 0, 1) := by decide +kernel
theorem dX7_lash_27 : decode cX7_lash 27 = .ok (.getfield 36, 3) := by decide +kernel
theorem dX7_lash_30 : decode cX7_lash 30 = .ok (.aload_n 0, 1) := by decide +kernel
theorem dX7_lash_31 : decode cX7_lash 31 = .ok (.getfield 25, 3) := by decide +kernel
theorem dX7_lash_34 : decode cX7_lash 34 = .ok (.invokevirtual 156, 3) := by decide +kernel
theorem dX7_lash_37 : decode cX7_lash 37 = .ok (.aload_n 0, 1) := by decide +kernel
theorem dX7_lash_38 : decode cX7_lash 38 = .ok (.getfield 25, 3) := by decide +kernel
theorem dX7_lash_41 : decode cX7_lash 41 = .ok (.iload_n 1, 1) := by decide +kernel
theorem dX7_lash_42 : decode cX7_lash 42 = .ok (.aload_n 0, 1) := by decide +kernel
theorem dX7_lash_43 : decode cX7_lash 43 = .ok (.getfield 25, 3) := by decide +kernel
theorem dX7_lash_46 : decode cX7_lash 46 = .ok (.getfield 172, 3) := by decide +kernel
theorem dX7_lash_49 : decode cX7_lash 49 = .ok (.invokevirtual 175, 3) := by decide +kernel
theorem dX7_lash_52 : decode cX7_lash 52 = .ok (.aload_n 0, 1) := by decide +kernel
theorem dX7_lash_53 : decode cX7_lash 53 = .ok (.getfield 25, 3) := by decide +kernel
theorem dX7_lash_56 : decode cX7_lash 56 = .ok (.getfield 169, 3) := by decide +kernel
theorem dX7_lash_59 : decode cX7_lash 59 = .ok (.iload_n 1, 1) := by decide +kernel
theorem dX7_lash_60 : decode cX7_lash 60 = .ok (.iaload, 1) := by decide +kernel
theorem dX7_lash_61 : decode cX7_lash 61 = .ok (.ireturn, 1) := by decide +kernel
theorem dX7_touch_0 : decode cX7_touch 0 = .ok (.iload_n 1, 1) := by decide +kernel
theorem dX7_touch_1 : decode cX7_touch 1 = .ok (.iconst 0, 1) := by decide +kernel
theorem dX7_touch_2 : decode cX7_touch 2 = .ok (.aload_n 0, 1) := by decide +kernel
theorem dX7_touch_3 : decode cX7_touch 3 = .ok (.getfield 25, 3) := by decide +kernel
theorem dX7_touch_6 : decode cX7_touch 6 = .ok (.getfield 141, 3) := by decide +kernel
theorem dX7_touch_9 : decode cX7_touch 9 = .ok (.iconst 2, 1) := by decide +kernel
theorem dX7_touch_10 : decode cX7_touch 10 = .ok (.isub, 1) := by decide +kernel
theorem dX7_touch_11 : decode cX7_touch 11 = .ok (.invokestatic 66, 3) := by decide +kernel
theorem dX7_touch_14 : decode cX7_touch 14 = .ok (.ifCond .eq 12, 3) := by decide +kernel
theorem dX7_touch_17 : decode cX7_touch 17 = .ok (.iload_n 2, 1) := by decide +kernel
theorem dX7_touch_18 : decode cX7_touch 18 = .ok (.iconst 0, 1) := by decide +kernel
theorem dX7_touch_19 : decode cX7_touch 19 = .ok (.iconst 1, 1) := by decide +kernel
theorem dX7_touch_20 : decode cX7_touch 20 = .ok (.invokestatic 66, 3) := by decide +kernel
theorem dX7_touch_23 : decode cX7_touch 23 = .ok (.ifCond .ne 6, 3) := by decide +kernel
theorem dX7_touch_26 : decode cX7_touch 26 = .ok (.ldc 70, 2) := by decide +kernel
theorem dX7_touch_28 : decode cX7_touch 28 = .ok (.ireturn, 1) := by decide +kernel
theorem dX7_touch_29 : decode cX7_touch 29 = .ok (.aload_n 0, 1) := by decide +kernel
theorem dX7_touch_30 : decode cX7_touch 30 = .ok (.getfield 25, 3) := by decide +kernel
theorem dX7_touch_33 : decode cX7_touch 33 = .ok (.getfield 178, 3) := by decide +kernel
theorem dX7_touch_36 : decode cX7_touch 36 = .ok (.iload_n 1, 1) := by decide +kernel
theorem dX7_touch_37 : decode cX7_touch 37 = .ok (.ishr, 1) := by decide +kernel
theorem dX7_touch_38 : decode cX7_touch 38 = .ok (.iconst 1, 1) := by decide +kernel
theorem dX7_touch_39 : decode cX7_touch 39 = .ok (.iand, 1) := by decide +kernel
theorem dX7_touch_40 : decode cX7_touch 40 = .ok (.iload_n 2, 1) := by decide +kernel
theorem dX7_touch_41 : decode cX7_touch 41 = .ok (.if_icmp .ne 6, 3) := by decide +kernel
theorem dX7_touch_44 : decode cX7_touch 44 = .ok (.ldc 145, 2) := by decide +kernel
theorem dX7_touch_46 : decode cX7_touch 46 = .ok (.ireturn, 1) := by decide +kernel
theorem dX7_touch_47 : decode cX7_touch 47 = .ok (.aload_n 0, 1) := by decide +kernel
theorem dX7_touch_48 : decode cX7_touch 48 = .ok (.getfield 36, 3) := by decide +kernel
theorem dX7_touch_51 : decode cX7_touch 51 = .ok (.aload_n 0, 1) := by decide +kernel
theorem dX7_touch_52 : decode cX7_touch 52 = .ok (.getfield 25, 3) := by decide +kernel
theorem dX7_touch_55 : decode cX7_touch 55 = .ok (.invokevirtual 156, 3) := by decide +kernel
theorem dX7_touch_58 : decode cX7_touch 58 = .ok (.aload_n 0, 1) := by decide +kernel
theorem dX7_touch_59 : decode cX7_touch 59 = .ok (.getfield 25, 3) := by decide +kernel
theorem dX7_touch_62 : decode cX7_touch 62 = .ok (.dup, 1) := by decide +kernel
theorem dX7_touch_63 : decode cX7_touch 63 = .ok (.getfield 178, 3) := by decide +kernel
theorem dX7_touch_66 : decode cX7_touch 66 = .ok (.iconst 1, 1) := by decide +kernel
theorem dX7_touch_67 : decode cX7_touch 67 = .ok (.iload_n 1, 1) := by decide +kernel
theorem dX7_touch_68 : decode cX7_touch 68 = .ok (.ishl, 1) := by decide +kernel
theorem dX7_touch_69 : decode cX7_touch 69 = .ok (.ixor, 1) := by decide +kernel
theorem dX7_touch_70 : decode cX7_touch 70 = .ok (.putfield 178, 3) := by decide +kernel
theorem dX7_touch_73 : decode cX7_touch 73 = .ok (.aload_n 0, 1) := by decide +kernel
theorem dX7_touch_74 : decode cX7_touch 74 = .ok (.getfield 25, 3) := by decide +kernel
theorem dX7_touch_77 : decode cX7_touch 77 = .ok (.getfield 178, 3) := by decide +kernel
theorem dX7_touch_80 : decode cX7_touch 80 = .ok (.ireturn, 1) := by decide +kernel
theorem dX7_putUp_0 : decode cX7_putUp 0 = .ok (.aload_n 0, 1) := by decide +kernel
theorem dX7_putUp_1 : decode cX7_putUp 1 = .ok (.iload_n 1, 1) := by decide +kernel
theorem dX7_putUp_2 : decode cX7_putUp 2 = .ok (.invokevirtual 166, 3) := by decide +kernel
theorem dX7_putUp_5 : decode cX7_putUp 5 = .ok (.ifCond .ne 6, 3) := by decide +kernel
theorem dX7_putUp_8 : decode cX7_putUp 8 = .ok (.ldc 70, 2) := by decide +kernel
theorem dX7_putUp_10 : decode cX7_putUp 10 = .ok (.ireturn, 1) := by decide +kernel
theorem dX7_putUp_11 : decode cX7_putUp 11 = .ok (.aload_n 0, 1) := by decide +kernel
theorem dX7_putUp_12 : decode cX7_putUp 12 = .ok (.getfield 25, 3) := by decide +kernel
theorem dX7_putUp_15 : decode cX7_putUp 15 = .ok (.getfield 169, 3) := by decide +kernel
theorem dX7_putUp_18 : decode cX7_putUp 18 = .ok (.iload_n 1, 1) := by decide +kernel
theorem dX7_putUp_19 : decode cX7_putUp 19 = .ok (.iaload, 1) := by decide +kernel
theorem dX7_putUp_20 : decode cX7_putUp 20 = .ok (.ifCond .eq 6, 3) := by decide +kernel
theorem dX7_putUp_23 : decode cX7_putUp 23 = .ok (.ldc 145, 2) := by decide +kernel
theorem dX7_putUp_25 : decode cX7_putUp 25 = .ok (.ireturn, 1) := by decide +kernel
theorem dX7_putUp_26 : decode cX7_putUp 26 = .ok (.aload_n 0, 1) := by decide +kernel
theorem dX7_putUp_27 : decode cX7_putUp 27 = .ok (.getfield 36, 3) := by decide +kernel
theorem dX7_putUp_30 : decode cX7_putUp 30 = .ok (.aload_n 0, 1) := by decide +kernel
theorem dX7_putUp_31 : decode cX7_putUp 31 = .ok (.getfield 25, 3) := by decide +kernel
theorem dX7_putUp_34 : decode cX7_putUp 34 = .ok (.invokevirtual 156, 3) := by decide +kernel
theorem dX7_putUp_37 : decode cX7_putUp 37 = .ok (.aload_n 0, 1) := by decide +kernel
theorem dX7_putUp_38 : decode cX7_putUp 38 = .ok (.getfield 25, 3) := by decide +kernel
theorem dX7_putUp_41 : decode cX7_putUp 41 = .ok (.getfield 169, 3) := by decide +kernel
theorem dX7_putUp_44 : decode cX7_putUp 44 = .ok (.iload_n 1, 1) := by decide +kernel
theorem dX7_putUp_45 : decode cX7_putUp 45 = .ok (.bipush 50, 2) := by decide +kernel
theorem dX7_putUp_47 : decode cX7_putUp 47 = .ok (.iastore, 1) := by decide +kernel
theorem dX7_putUp_48 : decode cX7_putUp 48 = .ok (.aload_n 0, 1) := by decide +kernel
theorem dX7_putUp_49 : decode cX7_putUp 49 = .ok (.getfield 25, 3) := by decide +kernel
theorem dX7_putUp_52 : decode cX7_putUp 52 = .ok (.invokevirtual 162, 3) := by decide +kernel
theorem dX7_putUp_55 : decode cX7_putUp 55 = .ok (.ireturn, 1) := by decide +kernel
theorem dX7_house_0 : decode cX7_house 0 = .ok (.aload_n 0, 1) := by decide +kernel
theorem dX7_house_1 : decode cX7_house 1 = .ok (.iload_n 1, 1) := by decide +kernel
theorem dX7_house_2 : decode cX7_house 2 = .ok (.invokevirtual 166, 3) := by decide +kernel
theorem dX7_house_5 : decode cX7_house 5 = .ok (.ifCond .ne 6, 3) := by decide +kernel
theorem dX7_house_8 : decode cX7_house 8 = .ok (.ldc 70, 2) := by decide +kernel
theorem dX7_house_10 : decode cX7_house 10 = .ok (.ireturn, 1) := by decide +kernel
theorem dX7_house_11 : decode cX7_house 11 = .ok (.iload_n 2, 1) := by decide +kernel
theorem dX7_house_12 : decode cX7_house 12 = .ok (.tableswitch 113 0 5 #[40, 50, 60, 78, 95, 104], 40) := by decide +kernel
theorem dX7_house_52 : decode cX7_house 52 = .ok (.aload_n 0, 1) := by decide +kernel
theorem dX7_house_53 : decode cX7_house 53 = .ok (.getfield 25, 3) := by decide +kernel
theorem dX7_house_56 : decode cX7_house 56 = .ok (.getfield 169, 3) := by decide +kernel
theorem dX7_house_59 : decode cX7_house 59 = .ok (.iload_n 1, 1) := by decide +kernel
theorem dX7_house_60 : decode cX7_house 60 = .ok (.iaload, 1) := by decide +kernel
theorem dX7_house_61 : decode cX7_house 61 = .ok (.ireturn, 1) := by decide +kernel
theorem dX7_house_62 : decode cX7_house 62 = .ok (.aload_n 0, 1) := by decide +kernel
theorem dX7_house_63 : decode cX7_house 63 = .ok (.getfield 25, 3) := by decide +kernel
theorem dX7_house_66 : decode cX7_house 66 = .ok (.getfield 181, 3) := by decide +kernel
theorem dX7_house_69 : decode cX7_house 69 = .ok (.iload_n 1, 1) := by decide +kernel
theorem dX7_house_70 : decode cX7_house 70 = .ok (.iaload, 1) := by decide +kernel
theorem dX7_house_71 : decode cX7_house 71 = .ok (.ireturn, 1) := by decide +kernel
theorem dX7_house_72 : decode cX7_house 72 = .ok (.aload_n 0, 1) := by decide +kernel
theorem dX7_house_73 : decode cX7_house 73 = .ok (.getfield 25, 3) := by decide +kernel
theorem dX7_house_76 : decode cX7_house 76 = .ok (.getfield 169, 3) := by decide +kernel
theorem dX7_house_79 : decode cX7_house 79 = .ok (.iload_n 1, 1) := by decide +kernel
theorem dX7_house_80 : decode cX7_house 80 = .ok (.iaload, 1) := by decide +kernel
theorem dX7_house_81 : decode cX7_house 81 = .ok (.ifCond .ne 7, 3) := by decide +kernel
theorem dX7_house_84 : decode cX7_house 84 = .ok (.iconst 1, 1) := by decide +kernel
theorem dX7_house_85 : decode cX7_house 85 = .ok (.goto 4, 3) := by decide +kernel
theorem dX7_house_88 : decode cX7_house 88 = .ok (.iconst 0, 1) := by decide +kernel
theorem dX7_house_89 : decode cX7_house 89 = .ok (.ireturn, 1) := by decide +kernel
theorem dX7_house_90 : decode cX7_house 90 = .ok (.aload_n 0, 1) := by decide +kernel
theorem dX7_house_91 : decode cX7_house 91 = .ok (.getfield 25, 3) := by decide +kernel
theorem dX7_house_94 : decode cX7_house 94 = .ok (.iload_n 1, 1) := by decide +kernel
theorem dX7_house_95 : decode cX7_house 95 = .ok (.invokevirtual 184, 3) := by decide +kernel
theorem dX7_house_98 : decode cX7_house 98 = .ok (.ifCond .eq 7, 3) := by decide +kernel
theorem dX7_house_101 : decode cX7_house 101 = .ok (.iconst 1, 1) := by decide +kernel
theorem dX7_house_102 : decode cX7_house 102 = .ok (.goto 4, 3) := by decide +kernel
theorem dX7_house_105 : decode cX7_house 105 = .ok (.iconst 0, 1) := by decide +kernel
theorem dX7_house_106 : decode cX7_house 106 = .ok (.ireturn, 1) := by decide +kernel
theorem dX7_house_107 : decode cX7_house 107 = .ok (.aload_n 0, 1) := by decide +kernel
theorem dX7_house_108 : decode cX7_house 108 = .ok (.getfield 25, 3) := by decide +kernel
theorem dX7_house_111 : decode cX7_house 111 = .ok (.iload_n 1, 1) := by decide +kernel
theorem dX7_house_112 : decode cX7_house 112 = .ok (.invokevirtual 187, 3) := by decide +kernel
theorem dX7_house_115 : decode cX7_house 115 = .ok (.ireturn, 1) := by decide +kernel
theorem dX7_house_116 : decode cX7_house 116 = .ok (.aload_n 0, 1) := by decide +kernel
theorem dX7_house_117 : decode cX7_house 117 = .ok (.getfield 25, 3) := by decide +kernel
theorem dX7_house_120 : decode cX7_house 120 = .ok (.iload_n 1, 1) := by decide +kernel
theorem dX7_house_121 : decode cX7_house 121 = .ok (.invokevirtual 190, 3) := by decide +kernel
theorem dX7_house_124 : decode cX7_house 124 = .ok (.ireturn, 1) := by decide +kernel
theorem dX7_house_125 : decode cX7_house 125 = .ok (.ldc 70, 2) := by decide +kernel
theorem dX7_house_127 : decode cX7_house 127 = .ok (.ireturn, 1) := by decide +kernel
theorem dX7_stand_0 : decode cX7_stand 0 = .ok (.aload_n 0, 1) := by decide +kernel
theorem dX7_stand_1 : decode cX7_stand 1 = .ok (.invokevirtual 149, 3) := by decide +kernel
theorem dX7_stand_4 : decode cX7_stand 4 = .ok (.ifCond .eq 6, 3) := by decide +kernel
theorem dX7_stand_7 : decode cX7_stand 7 = .ok (.ldc 145, 2) := by decide +kernel
theorem dX7_stand_9 : decode cX7_stand 9 = .ok (.ireturn, 1) := by decide +kernel
theorem dX7_stand_10 : decode cX7_stand 10 = .ok (.iload_n 1, 1) := by decide +kernel
theorem dX7_stand_11 : decode cX7_stand 11 = .ok (.tableswitch 85 0 5 #[37, 45, 53, 61, 69, 77], 37) := by decide +kernel
theorem dX7_stand_48 : decode cX7_stand 48 = .ok (.aload_n 0, 1) := by decide +kernel
theorem dX7_stand_49 : decode cX7_stand 49 = .ok (.getfield 25, 3) := by decide +kernel
theorem dX7_stand_52 : decode cX7_stand 52 = .ok (.invokevirtual 162, 3) := by decide +kernel
theorem dX7_stand_55 : decode cX7_stand 55 = .ok (.ireturn, 1) := by decide +kernel
theorem dX7_stand_56 : decode cX7_stand 56 = .ok (.aload_n 0, 1) := by decide +kernel
theorem dX7_stand_57 : decode cX7_stand 57 = .ok (.getfield 25, 3) := by decide +kernel
theorem dX7_stand_60 : decode cX7_stand 60 = .ok (.invokevirtual 193, 3) := by decide +kernel
theorem dX7_stand_63 : decode cX7_stand 63 = .ok (.ireturn, 1) := by decide +kernel
theorem dX7_stand_64 : decode cX7_stand 64 = .ok (.aload_n 0, 1) := by decide +kernel
theorem dX7_stand_65 : decode cX7_stand 65 = .ok (.getfield 25, 3) := by decide +kernel
theorem dX7_stand_68 : decode cX7_stand 68 = .ok (.getfield 178, 3) := by decide +kernel
theorem dX7_stand_71 : decode cX7_stand 71 = .ok (.ireturn, 1) := by decide +kernel
theorem dX7_stand_72 : decode cX7_stand 72 = .ok (.aload_n 0, 1) := by decide +kernel
theorem dX7_stand_73 : decode cX7_stand 73 = .ok (.getfield 25, 3) := by decide +kernel
theorem dX7_stand_76 : decode cX7_stand 76 = .ok (.invokevirtual 196, 3) := by decide +kernel
theorem dX7_stand_79 : decode cX7_stand 79 = .ok (.ireturn, 1) := by decide +kernel
theorem dX7_stand_80 : decode cX7_stand 80 = .ok (.aload_n 0, 1) := by decide +kernel
theorem dX7_stand_81 : decode cX7_stand 81 = .ok (.getfield 25, 3) := by decide +kernel
theorem dX7_stand_84 : decode cX7_stand 84 = .ok (.getfield 172, 3) := by decide +kernel
theorem dX7_stand_87 : decode cX7_stand 87 = .ok (.ireturn, 1) := by decide +kernel
theorem dX7_stand_88 : decode cX7_stand 88 = .ok (.aload_n 0, 1) := by decide +kernel
theorem dX7_stand_89 : decode cX7_stand 89 = .ok (.getfield 25, 3) := by decide +kernel
theorem dX7_stand_92 : decode cX7_stand 92 = .ok (.getfield 199, 3) := by decide +kernel
theorem dX7_stand_95 : decode cX7_stand 95 = .ok (.ireturn, 1) := by decide +kernel
theorem dX7_stand_96 : decode cX7_stand 96 = .ok (.ldc 70, 2) := by decide +kernel
theorem dX7_stand_98 : decode cX7_stand 98 = .ok (.ireturn, 1) := by decide +kernel
theorem dX7_ahead_0 : decode cX7_ahead 0 = .ok (.aload_n 0, 1) := by decide +kernel
theorem dX7_ahead_1 : decode cX7_ahead 1 = .ok (.iload_n 1, 1) := by decide +kernel
theorem dX7_ahead_2 : decode cX7_ahead 2 = .ok (.invokevirtual 166, 3) := by decide +kernel
theorem dX7_ahead_5 : decode cX7_ahead 5 = .ok (.ifCond .eq 13, 3) := by decide +kernel
theorem dX7_ahead_8 : decode cX7_ahead 8 = .ok (.iload_n 2, 1) := by decide +kernel
theorem dX7_ahead_9 : decode cX7_ahead 9 = .ok (.iconst 0, 1) := by decide +kernel
theorem dX7_ahead_10 : decode cX7_ahead 10 = .ok (.bipush 60, 2) := by decide +kernel
theorem dX7_ahead_12 : decode cX7_ahead 12 = .ok (.invokestatic 66, 3) := by decide +kernel
theorem dX7_ahead_15 : decode cX7_ahead 15 = .ok (.ifCond .ne 6, 3) := by decide +kernel
theorem dX7_ahead_18 : decode cX7_ahead 18 = .ok (.ldc 70, 2) := by decide +kernel
theorem dX7_ahead_20 : decode cX7_ahead 20 = .ok (.ireturn, 1) := by decide +kernel
theorem dX7_ahead_21 : decode cX7_ahead 21 = .ok (.aload_n 0, 1) := by decide +kernel
theorem dX7_ahead_22 : decode cX7_ahead 22 = .ok (.getfield 43, 3) := by decide +kernel
theorem dX7_ahead_25 : decode cX7_ahead 25 = .ok (.aload_n 0, 1) := by decide +kernel
theorem dX7_ahead_26 : decode cX7_ahead 26 = .ok (.getfield 25, 3) := by decide +kernel
theorem dX7_ahead_29 : decode cX7_ahead 29 = .ok (.iload_n 2, 1) := by decide +kernel
theorem dX7_ahead_30 : decode cX7_ahead 30 = .ok (.invokevirtual 202, 3) := by decide +kernel
theorem dX7_ahead_33 : decode cX7_ahead 33 = .ok (.getfield 169, 3) := by decide +kernel
theorem dX7_ahead_36 : decode cX7_ahead 36 = .ok (.iload_n 1, 1) := by decide +kernel
theorem dX7_ahead_37 : decode cX7_ahead 37 = .ok (.iaload, 1) := by decide +kernel
theorem dX7_ahead_38 : decode cX7_ahead 38 = .ok (.ireturn, 1) := by decide +kernel
theorem dX7_when_0 : decode cX7_when 0 = .ok (.aload_n 0, 1) := by decide +kernel
theorem dX7_when_1 : decode cX7_when 1 = .ok (.iload_n 1, 1) := by decide +kernel
theorem dX7_when_2 : decode cX7_when 2 = .ok (.invokevirtual 166, 3) := by decide +kernel
theorem dX7_when_5 : decode cX7_when 5 = .ok (.ifCond .eq 12, 3) := by decide +kernel
theorem dX7_when_8 : decode cX7_when 8 = .ok (.iload_n 2, 1) := by decide +kernel
theorem dX7_when_9 : decode cX7_when 9 = .ok (.iconst 0, 1) := by decide +kernel
theorem dX7_when_10 : decode cX7_when 10 = .ok (.iconst 1, 1) := by decide +kernel
theorem dX7_when_11 : decode cX7_when 11 = .ok (.invokestatic 66, 3) := by decide +kernel
theorem dX7_when_14 : decode cX7_when 14 = .ok (.ifCond .ne 6, 3) := by decide +kernel
theorem dX7_when_17 : decode cX7_when 17 = .ok (.ldc 70, 2) := by decide +kernel
theorem dX7_when_19 : decode cX7_when 19 = .ok (.ireturn, 1) := by decide +kernel
theorem dX7_when_20 : decode cX7_when 20 = .ok (.aload_n 0, 1) := by decide +kernel
theorem dX7_when_21 : decode cX7_when 21 = .ok (.getfield 43, 3) := by decide +kernel
theorem dX7_when_24 : decode cX7_when 24 = .ok (.aload_n 0, 1) := by decide +kernel
theorem dX7_when_25 : decode cX7_when 25 = .ok (.getfield 25, 3) := by decide +kernel
theorem dX7_when_28 : decode cX7_when 28 = .ok (.iload_n 1, 1) := by decide +kernel
theorem dX7_when_29 : decode cX7_when 29 = .ok (.iload_n 2, 1) := by decide +kernel
theorem dX7_when_30 : decode cX7_when 30 = .ok (.invokevirtual 206, 3) := by decide +kernel
theorem dX7_when_33 : decode cX7_when 33 = .ok (.ireturn, 1) := by decide +kernel
theorem dX7_first_0 : decode cX7_first 0 = .ok (.aload_n 0, 1) := by decide +kernel
theorem dX7_first_1 : decode cX7_first 1 = .ok (.invokevirtual 149, 3) := by decide +kernel
theorem dX7_first_4 : decode cX7_first 4 = .ok (.ifCond .eq 6, 3) := by decide +kernel
theorem dX7_first_7 : decode cX7_first 7 = .ok (.ldc 145, 2) := by decide +kernel
theorem dX7_first_9 : decode cX7_first 9 = .ok (.ireturn, 1) := by decide +kernel
theorem dX7_first_10 : decode cX7_first 10 = .ok (.iload_n 1, 1) := by decide +kernel
theorem dX7_first_11 : decode cX7_first 11 = .ok (.iconst 0, 1) := by decide +kernel
theorem dX7_first_12 : decode cX7_first 12 = .ok (.iconst 1, 1) := by decide +kernel
theorem dX7_first_13 : decode cX7_first 13 = .ok (.invokestatic 66, 3) := by decide +kernel
theorem dX7_first_16 : decode cX7_first 16 = .ok (.ifCond .ne 6, 3) := by decide +kernel
theorem dX7_first_19 : decode cX7_first 19 = .ok (.ldc 70, 2) := by decide +kernel
theorem dX7_first_21 : decode cX7_first 21 = .ok (.ireturn, 1) := by decide +kernel
theorem dX7_first_22 : decode cX7_first 22 = .ok (.aload_n 0, 1) := by decide +kernel
theorem dX7_first_23 : decode cX7_first 23 = .ok (.getfield 43, 3) := by decide +kernel
theorem dX7_first_26 : decode cX7_first 26 = .ok (.aload_n 0, 1) := by decide +kernel
theorem dX7_first_27 : decode cX7_first 27 = .ok (.getfield 25, 3) := by decide +kernel
theorem dX7_first_30 : decode cX7_first 30 = .ok (.iload_n 1, 1) := by decide +kernel
theorem dX7_first_31 : decode cX7_first 31 = .ok (.invokevirtual 210, 3) := by decide +kernel
theorem dX7_first_34 : decode cX7_first 34 = .ok (.ireturn, 1) := by decide +kernel
theorem dX7_left_0 : decode cX7_left 0 = .ok (.aload_n 0, 1) := by decide +kernel
theorem dX7_left_1 : decode cX7_left 1 = .ok (.invokevirtual 149, 3) := by decide +kernel
theorem dX7_left_4 : decode cX7_left 4 = .ok (.ifCond .eq 6, 3) := by decide +kernel
theorem dX7_left_7 : decode cX7_left 7 = .ok (.ldc 145, 2) := by decide +kernel
theorem dX7_left_9 : decode cX7_left 9 = .ok (.ireturn, 1) := by decide +kernel
theorem dX7_left_10 : decode cX7_left 10 = .ok (.iload_n 1, 1) := by decide +kernel
theorem dX7_left_11 : decode cX7_left 11 = .ok (.iconst 0, 1) := by decide +kernel
theorem dX7_left_12 : decode cX7_left 12 = .ok (.bipush 60, 2) := by decide +kernel
theorem dX7_left_14 : decode cX7_left 14 = .ok (.invokestatic 66, 3) := by decide +kernel
theorem dX7_left_17 : decode cX7_left 17 = .ok (.ifCond .ne 6, 3) := by decide +kernel
theorem dX7_left_20 : decode cX7_left 20 = .ok (.ldc 70, 2) := by decide +kernel
theorem dX7_left_22 : decode cX7_left 22 = .ok (.ireturn, 1) := by decide +kernel
theorem dX7_left_23 : decode cX7_left 23 = .ok (.aload_n 0, 1) := by decide +kernel
theorem dX7_left_24 : decode cX7_left 24 = .ok (.getfield 43, 3) := by decide +kernel
theorem dX7_left_27 : decode cX7_left 27 = .ok (.aload_n 0, 1) := by decide +kernel
theorem dX7_left_28 : decode cX7_left 28 = .ok (.getfield 25, 3) := by decide +kernel
theorem dX7_left_31 : decode cX7_left 31 = .ok (.iload_n 1, 1) := by decide +kernel
theorem dX7_left_32 : decode cX7_left 32 = .ok (.invokevirtual 202, 3) := by decide +kernel
theorem dX7_left_35 : decode cX7_left 35 = .ok (.invokevirtual 162, 3) := by decide +kernel
theorem dX7_left_38 : decode cX7_left 38 = .ok (.ireturn, 1) := by decide +kernel
theorem dX7_round_0 : decode cX7_round 0 = .ok (.aload_n 0, 1) := by decide +kernel
theorem dX7_round_1 : decode cX7_round 1 = .ok (.iload_n 1, 1) := by decide +kernel
theorem dX7_round_2 : decode cX7_round 2 = .ok (.invokevirtual 166, 3) := by decide +kernel
theorem dX7_round_5 : decode cX7_round 5 = .ok (.ifCond .eq 19, 3) := by decide +kernel
theorem dX7_round_8 : decode cX7_round 8 = .ok (.iload_n 2, 1) := by decide +kernel
theorem dX7_round_9 : decode cX7_round 9 = .ok (.iconst 1, 1) := by decide +kernel
theorem dX7_round_10 : decode cX7_round 10 = .ok (.bipush 7, 2) := by decide +kernel
theorem dX7_round_12 : decode cX7_round 12 = .ok (.invokestatic 66, 3) := by decide +kernel
theorem dX7_round_15 : decode cX7_round 15 = .ok (.ifCond .eq 9, 3) := by decide +kernel
theorem dX7_round_18 : decode cX7_round 18 = .ok (.iload_n 3, 1) := by decide +kernel
theorem dX7_round_19 : decode cX7_round 19 = .ok (.bipush (-2), 2) := by decide +kernel
theorem dX7_round_21 : decode cX7_round 21 = .ok (.if_icmp .ge 6, 3) := by decide +kernel
theorem dX7_round_24 : decode cX7_round 24 = .ok (.ldc 70, 2) := by decide +kernel
theorem dX7_round_26 : decode cX7_round 26 = .ok (.ireturn, 1) := by decide +kernel
theorem dX7_round_27 : decode cX7_round 27 = .ok (.iload_n 3, 1) := by decide +kernel
theorem dX7_round_28 : decode cX7_round 28 = .ok (.iload_n 2, 1) := by decide +kernel
theorem dX7_round_29 : decode cX7_round 29 = .ok (.if_icmp .lt 6, 3) := by decide +kernel
theorem dX7_round_32 : decode cX7_round 32 = .ok (.ldc 214, 2) := by decide +kernel
theorem dX7_round_34 : decode cX7_round 34 = .ok (.ireturn, 1) := by decide +kernel
theorem dX7_round_35 : decode cX7_round 35 = .ok (.aload_n 0, 1) := by decide +kernel
theorem dX7_round_36 : decode cX7_round 36 = .ok (.getfield 50, 3) := by decide +kernel
theorem dX7_round_39 : decode cX7_round 39 = .ok (.aload_n 0, 1) := by decide +kernel
theorem dX7_round_40 : decode cX7_round 40 = .ok (.getfield 25, 3) := by decide +kernel
theorem dX7_round_43 : decode cX7_round 43 = .ok (.iload_n 1, 1) := by decide +kernel
theorem dX7_round_44 : decode cX7_round 44 = .ok (.iload_n 2, 1) := by decide +kernel
theorem dX7_round_45 : decode cX7_round 45 = .ok (.invokevirtual 215, 3) := by decide +kernel
theorem dX7_round_48 : decode cX7_round 48 = .ok (.iload_n 3, 1) := by decide +kernel
theorem dX7_round_49 : decode cX7_round 49 = .ok (.iconst (-1), 1) := by decide +kernel
theorem dX7_round_50 : decode cX7_round 50 = .ok (.if_icmp .ne 11, 3) := by decide +kernel
theorem dX7_round_53 : decode cX7_round 53 = .ok (.aload_n 0, 1) := by decide +kernel
theorem dX7_round_54 : decode cX7_round 54 = .ok (.getfield 50, 3) := by decide +kernel
theorem dX7_round_57 : decode cX7_round 57 = .ok (.getfield 219, 3) := by decide +kernel
theorem dX7_round_60 : decode cX7_round 60 = .ok (.ireturn, 1) := by decide +kernel
theorem dX7_round_61 : decode cX7_round 61 = .ok (.iload_n 3, 1) := by decide +kernel
theorem dX7_round_62 : decode cX7_round 62 = .ok (.bipush (-2), 2) := by decide +kernel
theorem dX7_round_64 : decode cX7_round 64 = .ok (.if_icmp .ne 13, 3) := by decide +kernel
theorem dX7_round_67 : decode cX7_round 67 = .ok (.aload_n 0, 1) := by decide +kernel
theorem dX7_round_68 : decode cX7_round 68 = .ok (.getfield 50, 3) := by decide +kernel
theorem dX7_round_71 : decode cX7_round 71 = .ok (.getfield 222, 3) := by decide +kernel
theorem dX7_round_74 : decode cX7_round 74 = .ok (.goto 12, 3) := by decide +kernel
theorem dX7_round_77 : decode cX7_round 77 = .ok (.aload_n 0, 1) := by decide +kernel
theorem dX7_round_78 : decode cX7_round 78 = .ok (.getfield 50, 3) := by decide +kernel
theorem dX7_round_81 : decode cX7_round 81 = .ok (.getfield 225, 3) := by decide +kernel
theorem dX7_round_84 : decode cX7_round 84 = .ok (.iload_n 3, 1) := by decide +kernel
theorem dX7_round_85 : decode cX7_round 85 = .ok (.iaload, 1) := by decide +kernel
theorem dX7_round_86 : decode cX7_round 86 = .ok (.ireturn, 1) := by decide +kernel
theorem dX7_walls_0 : decode cX7_walls 0 = .ok (.aload_n 0, 1) := by decide +kernel
theorem dX7_walls_1 : decode cX7_walls 1 = .ok (.invokevirtual 149, 3) := by decide +kernel
theorem dX7_walls_4 : decode cX7_walls 4 = .ok (.ifCond .eq 6, 3) := by decide +kernel
theorem dX7_walls_7 : decode cX7_walls 7 = .ok (.ldc 145, 2) := by decide +kernel
theorem dX7_walls_9 : decode cX7_walls 9 = .ok (.ireturn, 1) := by decide +kernel
theorem dX7_walls_10 : decode cX7_walls 10 = .ok (.iload_n 1, 1) := by decide +kernel
theorem dX7_walls_11 : decode cX7_walls 11 = .ok (.iconst 1, 1) := by decide +kernel
theorem dX7_walls_12 : decode cX7_walls 12 = .ok (.bipush 60, 2) := by decide +kernel
theorem dX7_walls_14 : decode cX7_walls 14 = .ok (.invokestatic 66, 3) := by decide +kernel
theorem dX7_walls_17 : decode cX7_walls 17 = .ok (.ifCond .eq 12, 3) := by decide +kernel
theorem dX7_walls_20 : decode cX7_walls 20 = .ok (.iload_n 2, 1) := by decide +kernel
theorem dX7_walls_21 : decode cX7_walls 21 = .ok (.iconst 0, 1) := by decide +kernel
theorem dX7_walls_22 : decode cX7_walls 22 = .ok (.iconst 1, 1) := by decide +kernel
theorem dX7_walls_23 : decode cX7_walls 23 = .ok (.invokestatic 66, 3) := by decide +kernel
theorem dX7_walls_26 : decode cX7_walls 26 = .ok (.ifCond .ne 6, 3) := by decide +kernel
theorem dX7_walls_29 : decode cX7_walls 29 = .ok (.ldc 70, 2) := by decide +kernel
theorem dX7_walls_31 : decode cX7_walls 31 = .ok (.ireturn, 1) := by decide +kernel
theorem dX7_walls_32 : decode cX7_walls 32 = .ok (.aload_n 0, 1) := by decide +kernel
theorem dX7_walls_33 : decode cX7_walls 33 = .ok (.getfield 43, 3) := by decide +kernel
theorem dX7_walls_36 : decode cX7_walls 36 = .ok (.aload_n 0, 1) := by decide +kernel
theorem dX7_walls_37 : decode cX7_walls 37 = .ok (.getfield 25, 3) := by decide +kernel
theorem dX7_walls_40 : decode cX7_walls 40 = .ok (.iload_n 1, 1) := by decide +kernel
theorem dX7_walls_41 : decode cX7_walls 41 = .ok (.iload_n 2, 1) := by decide +kernel
theorem dX7_walls_42 : decode cX7_walls 42 = .ok (.invokevirtual 228, 3) := by decide +kernel
theorem dX7_walls_45 : decode cX7_walls 45 = .ok (.ireturn, 1) := by decide +kernel
theorem dX7_steady_0 : decode cX7_steady 0 = .ok (.aload_n 0, 1) := by decide +kernel
theorem dX7_steady_1 : decode cX7_steady 1 = .ok (.invokevirtual 149, 3) := by decide +kernel
theorem dX7_steady_4 : decode cX7_steady 4 = .ok (.ifCond .eq 6, 3) := by decide +kernel
theorem dX7_steady_7 : decode cX7_steady 7 = .ok (.ldc 145, 2) := by decide +kernel
theorem dX7_steady_9 : decode cX7_steady 9 = .ok (.ireturn, 1) := by decide +kernel
theorem dX7_steady_10 : decode cX7_steady 10 = .ok (.iload_n 1, 1) := by decide +kernel
theorem dX7_steady_11 : decode cX7_steady 11 = .ok (.iconst 1, 1) := by decide +kernel
theorem dX7_steady_12 : decode cX7_steady 12 = .ok (.bipush 60, 2) := by decide +kernel
theorem dX7_steady_14 : decode cX7_steady 14 = .ok (.invokestatic 66, 3) := by decide +kernel
theorem dX7_steady_17 : decode cX7_steady 17 = .ok (.ifCond .eq 12, 3) := by decide +kernel
theorem dX7_steady_20 : decode cX7_steady 20 = .ok (.iload_n 2, 1) := by decide +kernel
theorem dX7_steady_21 : decode cX7_steady 21 = .ok (.iconst 0, 1) := by decide +kernel
theorem dX7_steady_22 : decode cX7_steady 22 = .ok (.iconst 1, 1) := by decide +kernel
theorem dX7_steady_23 : decode cX7_steady 23 = .ok (.invokestatic 66, 3) := by decide +kernel
theorem dX7_steady_26 : decode cX7_steady 26 = .ok (.ifCond .ne 6, 3) := by decide +kernel
theorem dX7_steady_29 : decode cX7_steady 29 = .ok (.ldc 70, 2) := by decide +kernel
theorem dX7_steady_31 : decode cX7_steady 31 = .ok (.ireturn, 1) := by decide +kernel
theorem dX7_steady_32 : decode cX7_steady 32 = .ok (.aload_n 0, 1) := by decide +kernel
theorem dX7_steady_33 : decode cX7_steady 33 = .ok (.getfield 43, 3) := by decide +kernel
theorem dX7_steady_36 : decode cX7_steady 36 = .ok (.aload_n 0, 1) := by decide +kernel
theorem dX7_steady_37 : decode cX7_steady 37 = .ok (.getfield 25, 3) := by decide +kernel
theorem dX7_steady_40 : decode cX7_steady 40 = .ok (.iload_n 1, 1) := by decide +kernel
theorem dX7_steady_41 : decode cX7_steady 41 = .ok (.iload_n 2, 1) := by decide +kernel
theorem dX7_steady_42 : decode cX7_steady 42 = .ok (.invokevirtual 231, 3) := by decide +kernel
theorem dX7_steady_45 : decode cX7_steady 45 = .ok (.ireturn, 1) := by decide +kernel
theorem dX7_boys_0 : decode cX7_boys 0 = .ok (.aload_n 0, 1) := by decide +kernel
theorem dX7_boys_1 : decode cX7_boys 1 = .ok (.invokevirtual 149, 3) := by decide +kernel
theorem dX7_boys_4 : decode cX7_boys 4 = .ok (.ifCond .eq 6, 3) := by decide +kernel
theorem dX7_boys_7 : decode cX7_boys 7 = .ok (.ldc 145, 2) := by decide +kernel
theorem dX7_boys_9 : decode cX7_boys 9 = .ok (.ireturn, 1) := by decide +kernel
theorem dX7_boys_10 : decode cX7_boys 10 = .ok (.iload_n 1, 1) := by decide +kernel
theorem dX7_boys_11 : decode cX7_boys 11 = .ok (.iconst 0, 1) := by decide +kernel
theorem dX7_boys_12 : decode cX7_boys 12 = .ok (.iconst 4, 1) := by decide +kernel
theorem dX7_boys_13 : decode cX7_boys 13 = .ok (.invokestatic 66, 3) := by decide +kernel
theorem dX7_boys_16 : decode cX7_boys 16 = .ok (.ifCond .eq 13, 3) := by decide +kernel
theorem dX7_boys_19 : decode cX7_boys 19 = .ok (.iload_n 2, 1) := by decide +kernel
theorem dX7_boys_20 : decode cX7_boys 20 = .ok (.iconst 1, 1) := by decide +kernel
theorem dX7_boys_21 : decode cX7_boys 21 = .ok (.bipush 20, 2) := by decide +kernel
theorem dX7_boys_23 : decode cX7_boys 23 = .ok (.invokestatic 66, 3) := by decide +kernel
theorem dX7_boys_26 : decode cX7_boys 26 = .ok (.ifCond .ne 6, 3) := by decide +kernel
theorem dX7_boys_29 : decode cX7_boys 29 = .ok (.ldc 70, 2) := by decide +kernel
theorem dX7_boys_31 : decode cX7_boys 31 = .ok (.ireturn, 1) := by decide +kernel
theorem dX7_boys_32 : decode cX7_boys 32 = .ok (.aload_n 0, 1) := by decide +kernel
theorem dX7_boys_33 : decode cX7_boys 33 = .ok (.getfield 43, 3) := by decide +kernel
theorem dX7_boys_36 : decode cX7_boys 36 = .ok (.getfield 234, 3) := by decide +kernel
theorem dX7_boys_39 : decode cX7_boys 39 = .ok (.aload_n 0, 1) := by decide +kernel
theorem dX7_boys_40 : decode cX7_boys 40 = .ok (.getfield 25, 3) := by decide +kernel
theorem dX7_boys_43 : decode cX7_boys 43 = .ok (.invokevirtual 134, 3) := by decide +kernel
theorem dX7_boys_46 : decode cX7_boys 46 = .ok (.aload_n 0, 1) := by decide +kernel
theorem dX7_boys_47 : decode cX7_boys 47 = .ok (.getfield 43, 3) := by decide +kernel
theorem dX7_boys_50 : decode cX7_boys 50 = .ok (.iconst 0, 1) := by decide +kernel
theorem dX7_boys_51 : decode cX7_boys 51 = .ok (.iload_n 1, 1) := by decide +kernel
theorem dX7_boys_52 : decode cX7_boys 52 = .ok (.iload_n 2, 1) := by decide +kernel
theorem dX7_boys_53 : decode cX7_boys 53 = .ok (.invokestatic 237, 3) := by decide +kernel
theorem dX7_boys_56 : decode cX7_boys 56 = .ok (.ireturn, 1) := by decide +kernel
theorem dX7_string_0 : decode cX7_string 0 = .ok (.aload_n 0, 1) := by decide +kernel
theorem dX7_string_1 : decode cX7_string 1 = .ok (.iload_n 1, 1) := by decide +kernel
theorem dX7_string_2 : decode cX7_string 2 = .ok (.invokevirtual 166, 3) := by decide +kernel
theorem dX7_string_5 : decode cX7_string 5 = .ok (.ifCond .eq 14, 3) := by decide +kernel
theorem dX7_string_8 : decode cX7_string 8 = .ok (.iload_n 2, 1) := by decide +kernel
theorem dX7_string_9 : decode cX7_string 9 = .ok (.iconst 0, 1) := by decide +kernel
theorem dX7_string_10 : decode cX7_string 10 = .ok (.sipush 999, 3) := by decide +kernel
theorem dX7_string_13 : decode cX7_string 13 = .ok (.invokestatic 66, 3) := by decide +kernel
theorem dX7_string_16 : decode cX7_string 16 = .ok (.ifCond .ne 6, 3) := by decide +kernel
theorem dX7_string_19 : decode cX7_string 19 = .ok (.ldc 70, 2) := by decide +kernel
theorem dX7_string_21 : decode cX7_string 21 = .ok (.ireturn, 1) := by decide +kernel
theorem dX7_string_22 : decode cX7_string 22 = .ok (.aload_n 0, 1) := by decide +kernel
theorem dX7_string_23 : decode cX7_string 23 = .ok (.getfield 25, 3) := by decide +kernel
theorem dX7_string_26 : decode cX7_string 26 = .ok (.iload_n 1, 1) := by decide +kernel
theorem dX7_string_27 : decode cX7_string 27 = .ok (.iload_n 2, 1) := by decide +kernel
theorem dX7_string_28 : decode cX7_string 28 = .ok (.invokevirtual 241, 3) := by decide +kernel
theorem dX7_string_31 : decode cX7_string 31 = .ok (.ireturn, 1) := by decide +kernel
theorem dX7_who_0 : decode cX7_who 0 = .ok (.aload_n 0, 1) := by decide +kernel
theorem dX7_who_1 : decode cX7_who 1 = .ok (.iload_n 1, 1) := by decide +kernel
theorem dX7_who_2 : decode cX7_who 2 = .ok (.invokevirtual 166, 3) := by decide +kernel
theorem dX7_who_5 : decode cX7_who 5 = .ok (.ifCond .eq 30, 3) := by decide +kernel
theorem dX7_who_8 : decode cX7_who 8 = .ok (.iload_n 2, 1) := by decide +kernel
theorem dX7_who_9 : decode cX7_who 9 = .ok (.iconst 0, 1) := by decide +kernel
theorem dX7_who_10 : decode cX7_who 10 = .ok (.iconst 4, 1) := by decide +kernel
theorem dX7_who_11 : decode cX7_who 11 = .ok (.invokestatic 66, 3) := by decide +kernel
theorem dX7_who_14 : decode cX7_who 14 = .ok (.ifCond .eq 21, 3) := by decide +kernel
theorem dX7_who_17 : decode cX7_who 17 = .ok (.iload_n 3, 1) := by decide +kernel
theorem dX7_who_18 : decode cX7_who 18 = .ok (.invokestatic 62, 3) := by decide +kernel
theorem dX7_who_21 : decode cX7_who 21 = .ok (.ifCond .eq 14, 3) := by decide +kernel
theorem dX7_who_24 : decode cX7_who 24 = .ok (.iload 5, 2) := by decide +kernel
theorem dX7_who_26 : decode cX7_who 26 = .ok (.iconst 1, 1) := by decide +kernel
theorem dX7_who_27 : decode cX7_who 27 = .ok (.bipush 12, 2) := by decide +kernel
theorem dX7_who_29 : decode cX7_who 29 = .ok (.invokestatic 66, 3) := by decide +kernel
theorem dX7_who_32 : decode cX7_who 32 = .ok (.ifCond .ne 6, 3) := by decide +kernel
theorem dX7_who_35 : decode cX7_who 35 = .ok (.ldc 70, 2) := by decide +kernel
theorem dX7_who_37 : decode cX7_who 37 = .ok (.ireturn, 1) := by decide +kernel
theorem dX7_who_38 : decode cX7_who 38 = .ok (.aload_n 0, 1) := by decide +kernel
theorem dX7_who_39 : decode cX7_who 39 = .ok (.getfield 11, 3) := by decide +kernel
theorem dX7_who_42 : decode cX7_who 42 = .ok (.iload_n 3, 1) := by decide +kernel
theorem dX7_who_43 : decode cX7_who 43 = .ok (.aaload, 1) := by decide +kernel
theorem dX7_who_44 : decode cX7_who 44 = .ok (.iload 4, 2) := by decide +kernel
theorem dX7_who_46 : decode cX7_who 46 = .ok (.iload 5, 2) := by decide +kernel
theorem dX7_who_48 : decode cX7_who 48 = .ok (.invokevirtual 82, 3) := by decide +kernel
theorem dX7_who_51 : decode cX7_who 51 = .ok (.istore 6, 2) := by decide +kernel
theorem dX7_who_53 : decode cX7_who 53 = .ok (.iload 6, 2) := by decide +kernel
theorem dX7_who_55 : decode cX7_who 55 = .ok (.ifCond .eq 10, 3) := by decide +kernel
theorem dX7_who_58 : decode cX7_who 58 = .ok (.aload_n 0, 1) := by decide +kernel
theorem dX7_who_59 : decode cX7_who 59 = .ok (.iload 6, 2) := by decide +kernel
theorem dX7_who_61 : decode cX7_who 61 = .ok (.invokevirtual 71, 3) := by decide +kernel
theorem dX7_who_64 : decode cX7_who 64 = .ok (.ireturn, 1) := by decide +kernel
theorem dX7_who_65 : decode cX7_who 65 = .ok (.aload_n 0, 1) := by decide +kernel
theorem dX7_who_66 : decode cX7_who 66 = .ok (.getfield 43, 3) := by decide +kernel
theorem dX7_who_69 : decode cX7_who 69 = .ok (.aload_n 0, 1) := by decide +kernel
theorem dX7_who_70 : decode cX7_who 70 = .ok (.getfield 11, 3) := by decide +kernel
theorem dX7_who_73 : decode cX7_who 73 = .ok (.iload_n 3, 1) := by decide +kernel
theorem dX7_who_74 : decode cX7_who 74 = .ok (.aaload, 1) := by decide +kernel
theorem dX7_who_75 : decode cX7_who 75 = .ok (.getfield 93, 3) := by decide +kernel
theorem dX7_who_78 : decode cX7_who 78 = .ok (.iload 4, 2) := by decide +kernel
theorem dX7_who_80 : decode cX7_who 80 = .ok (.iload 5, 2) := by decide +kernel
theorem dX7_who_82 : decode cX7_who 82 = .ok (.invokevirtual 244, 3) := by decide +kernel
theorem dX7_who_85 : decode cX7_who 85 = .ok (.iload_n 2, 1) := by decide +kernel
theorem dX7_who_86 : decode cX7_who 86 = .ok (.ifCond .ne 20, 3) := by decide +kernel
theorem dX7_who_89 : decode cX7_who 89 = .ok (.aload_n 0, 1) := by decide +kernel
theorem dX7_who_90 : decode cX7_who 90 = .ok (.aload_n 0, 1) := by decide +kernel
theorem dX7_who_91 : decode cX7_who 91 = .ok (.getfield 43, 3) := by decide +kernel
theorem dX7_who_94 : decode cX7_who 94 = .ok (.aload_n 0, 1) := by decide +kernel
theorem dX7_who_95 : decode cX7_who 95 = .ok (.getfield 25, 3) := by decide +kernel
theorem dX7_who_98 : decode cX7_who 98 = .ok (.iload_n 1, 1) := by decide +kernel
theorem dX7_who_99 : decode cX7_who 99 = .ok (.invokevirtual 248, 3) := by decide +kernel
theorem dX7_who_102 : decode cX7_who 102 = .ok (.invokevirtual 79, 3) := by decide +kernel
theorem dX7_who_105 : decode cX7_who 105 = .ok (.ireturn, 1) := by decide +kernel
theorem dX7_who_106 : decode cX7_who 106 = .ok (.aload_n 0, 1) := by decide +kernel
theorem dX7_who_107 : decode cX7_who 107 = .ok (.iload_n 2, 1) := by decide +kernel
theorem dX7_who_108 : decode cX7_who 108 = .ok (.iconst 1, 1) := by decide +kernel
theorem dX7_who_109 : decode cX7_who 109 = .ok (.if_icmp .ne 18, 3) := by decide +kernel
theorem dX7_who_112 : decode cX7_who 112 = .ok (.aload_n 0, 1) := by decide +kernel
theorem dX7_who_113 : decode cX7_who 113 = .ok (.getfield 43, 3) := by decide +kernel
theorem dX7_who_116 : decode cX7_who 116 = .ok (.aload_n 0, 1) := by decide +kernel
theorem dX7_who_117 : decode cX7_who 117 = .ok (.getfield 25, 3) := by decide +kernel
theorem dX7_who_120 : decode cX7_who 120 = .ok (.iload_n 1, 1) := by decide +kernel
theorem dX7_who_121 : decode cX7_who 121 = .ok (.invokevirtual 251, 3) := by decide +kernel
theorem dX7_who_124 : decode cX7_who 124 = .ok (.goto 16, 3) := by decide +kernel
theorem dX7_who_127 : decode cX7_who 127 = .ok (.aload_n 0, 1) := by decide +kernel
theorem dX7_who_128 : decode cX7_who 128 = .ok (.getfield 43, 3) := by decide +kernel
theorem dX7_who_131 : decode cX7_who 131 = .ok (.aload_n 0, 1) := by decide +kernel
theorem dX7_who_132 : decode cX7_who 132 = .ok (.getfield 25, 3) := by decide +kernel
theorem dX7_who_135 : decode cX7_who 135 = .ok (.iload_n 1, 1) := by decide +kernel
theorem dX7_who_136 : decode cX7_who 136 = .ok (.iload_n 2, 1) := by decide +kernel
theorem dX7_who_137 : decode cX7_who 137 = .ok (.invokevirtual 254, 3) := by decide +kernel
theorem dX7_who_140 : decode cX7_who 140 = .ok (.invokevirtual 79, 3) := by decide +kernel
theorem dX7_who_143 : decode cX7_who 143 = .ok (.ireturn, 1) := by decide +kernel
theorem dX7_finger_0 : decode cX7_finger 0 = .ok (.aload_n 0, 1) := by decide +kernel
theorem dX7_finger_1 : decode cX7_finger 1 = .ok (.iload_n 1, 1) := by decide +kernel
theorem dX7_finger_2 : decode cX7_finger 2 = .ok (.invokevirtual 166, 3) := by decide +kernel
theorem dX7_finger_5 : decode cX7_finger 5 = .ok (.ifCond .eq 21, 3) := by decide +kernel
theorem dX7_finger_8 : decode cX7_finger 8 = .ok (.iload_n 2, 1) := by decide +kernel
theorem dX7_finger_9 : decode cX7_finger 9 = .ok (.invokestatic 62, 3) := by decide +kernel
theorem dX7_finger_12 : decode cX7_finger 12 = .ok (.ifCond .eq 14, 3) := by decide +kernel
theorem dX7_finger_15 : decode cX7_finger 15 = .ok (.iload 4, 2) := by decide +kernel
theorem dX7_finger_17 : decode cX7_finger 17 = .ok (.iconst 1, 1) := by decide +kernel
theorem dX7_finger_18 : decode cX7_finger 18 = .ok (.bipush 12, 2) := by decide +kernel
theorem dX7_finger_20 : decode cX7_finger 20 = .ok (.invokestatic 66, 3) := by decide +kernel
theorem dX7_finger_23 : decode cX7_finger 23 = .ok (.ifCond .ne 6, 3) := by decide +kernel
theorem dX7_finger_26 : decode cX7_finger 26 = .ok (.ldc 70, 2) := by decide +kernel
theorem dX7_finger_28 : decode cX7_finger 28 = .ok (.ireturn, 1) := by decide +kernel
theorem dX7_finger_29 : decode cX7_finger 29 = .ok (.aload_n 0, 1) := by decide +kernel
theorem dX7_finger_30 : decode cX7_finger 30 = .ok (.getfield 11, 3) := by decide +kernel
theorem dX7_finger_33 : decode cX7_finger 33 = .ok (.iload_n 2, 1) := by decide +kernel
theorem dX7_finger_34 : decode cX7_finger 34 = .ok (.aaload, 1) := by decide +kernel
theorem dX7_finger_35 : decode cX7_finger 35 = .ok (.iload_n 3, 1) := by decide +kernel
theorem dX7_finger_36 : decode cX7_finger 36 = .ok (.iload 4, 2) := by decide +kernel
theorem dX7_finger_38 : decode cX7_finger 38 = .ok (.invokevirtual 82, 3) := by decide +kernel
theorem dX7_finger_41 : decode cX7_finger 41 = .ok (.istore 5, 2) := by decide +kernel
theorem dX7_finger_43 : decode cX7_finger 43 = .ok (.iload 5, 2) := by decide +kernel
theorem dX7_finger_45 : decode cX7_finger 45 = .ok (.ifCond .eq 10, 3) := by decide +kernel
theorem dX7_finger_48 : decode cX7_finger 48 = .ok (.aload_n 0, 1) := by decide +kernel
theorem dX7_finger_49 : decode cX7_finger 49 = .ok (.iload 5, 2) := by decide +kernel
theorem dX7_finger_51 : decode cX7_finger 51 = .ok (.invokevirtual 71, 3) := by decide +kernel
theorem dX7_finger_54 : decode cX7_finger 54 = .ok (.ireturn, 1) := by decide +kernel
theorem dX7_finger_55 : decode cX7_finger 55 = .ok (.aload_n 0, 1) := by decide +kernel
theorem dX7_finger_56 : decode cX7_finger 56 = .ok (.getfield 43, 3) := by decide +kernel
theorem dX7_finger_59 : decode cX7_finger 59 = .ok (.aload_n 0, 1) := by decide +kernel
theorem dX7_finger_60 : decode cX7_finger 60 = .ok (.getfield 11, 3) := by decide +kernel
theorem dX7_finger_63 : decode cX7_finger 63 = .ok (.iload_n 2, 1) := by decide +kernel
theorem dX7_finger_64 : decode cX7_finger 64 = .ok (.aaload, 1) := by decide +kernel
theorem dX7_finger_65 : decode cX7_finger 65 = .ok (.getfield 93, 3) := by decide +kernel
theorem dX7_finger_68 : decode cX7_finger 68 = .ok (.iload_n 3, 1) := by decide +kernel
theorem dX7_finger_69 : decode cX7_finger 69 = .ok (.iload 4, 2) := by decide +kernel
theorem dX7_finger_71 : decode cX7_finger 71 = .ok (.invokevirtual 244, 3) := by decide +kernel
theorem dX7_finger_74 : decode cX7_finger 74 = .ok (.aload_n 0, 1) := by decide +kernel
theorem dX7_finger_75 : decode cX7_finger 75 = .ok (.aload_n 0, 1) := by decide +kernel
theorem dX7_finger_76 : decode cX7_finger 76 = .ok (.getfield 43, 3) := by decide +kernel
theorem dX7_finger_79 : decode cX7_finger 79 = .ok (.aload_n 0, 1) := by decide +kernel
theorem dX7_finger_80 : decode cX7_finger 80 = .ok (.getfield 25, 3) := by decide +kernel
theorem dX7_finger_83 : decode cX7_finger 83 = .ok (.iload_n 1, 1) := by decide +kernel
theorem dX7_finger_84 : decode cX7_finger 84 = .ok (.invokevirtual 257, 3) := by decide +kernel
theorem dX7_finger_87 : decode cX7_finger 87 = .ok (.invokevirtual 79, 3) := by decide +kernel
theorem dX7_finger_90 : decode cX7_finger 90 = .ok (.ireturn, 1) := by decide +kernel
theorem dX7_lashes_0 : decode cX7_lashes 0 = .ok (.aload_n 0, 1) := by decide +kernel
theorem dX7_lashes_1 : decode cX7_lashes 1 = .ok (.iload_n 1, 1) := by decide +kernel
theorem dX7_lashes_2 : decode cX7_lashes 2 = .ok (.invokevirtual 166, 3) := by decide +kernel
theorem dX7_lashes_5 : decode cX7_lashes 5 = .ok (.ifCond .eq 29, 3) := by decide +kernel
theorem dX7_lashes_8 : decode cX7_lashes 8 = .ok (.aload_n 0, 1) := by decide +kernel
theorem dX7_lashes_9 : decode cX7_lashes 9 = .ok (.iload_n 2, 1) := by decide +kernel
theorem dX7_lashes_10 : decode cX7_lashes 10 = .ok (.invokevirtual 166, 3) := by decide +kernel
theorem dX7_lashes_13 : decode cX7_lashes 13 = .ok (.ifCond .eq 21, 3) := by decide +kernel
theorem dX7_lashes_16 : decode cX7_lashes 16 = .ok (.iload_n 3, 1) := by decide +kernel
theorem dX7_lashes_17 : decode cX7_lashes 17 = .ok (.invokestatic 62, 3) := by decide +kernel
theorem dX7_lashes_20 : decode cX7_lashes 20 = .ok (.ifCond .eq 14, 3) := by decide +kernel
theorem dX7_lashes_23 : decode cX7_lashes 23 = .ok (.iload 5, 2) := by decide +kernel
theorem dX7_lashes_25 : decode cX7_lashes 25 = .ok (.iconst 1, 1) := by decide +kernel
theorem dX7_lashes_26 : decode cX7_lashes 26 = .ok (.bipush 12, 2) := by decide +kernel
theorem dX7_lashes_28 : decode cX7_lashes 28 = .ok (.invokestatic 66, 3) := by decide +kernel
theorem dX7_lashes_31 : decode cX7_lashes 31 = .ok (.ifCond .ne 6, 3) := by decide +kernel
theorem dX7_lashes_34 : decode cX7_lashes 34 = .ok (.ldc 70, 2) := by decide +kernel
theorem dX7_lashes_36 : decode cX7_lashes 36 = .ok (.ireturn, 1) := by decide +kernel
theorem dX7_lashes_37 : decode cX7_lashes 37 = .ok (.aload_n 0, 1) := by decide +kernel
theorem dX7_lashes_38 : decode cX7_lashes 38 = .ok (.getfield 25, 3) := by decide +kernel
theorem dX7_lashes_41 : decode cX7_lashes 41 = .ok (.getfield 169, 3) := by decide +kernel
theorem dX7_lashes_44 : decode cX7_lashes 44 = .ok (.iload_n 2, 1) := by decide +kernel
theorem dX7_lashes_45 : decode cX7_lashes 45 = .ok (.iaload, 1) := by decide +kernel
theorem dX7_lashes_46 : decode cX7_lashes 46 = .ok (.ifCond .ne 6, 3) := by decide +kernel
theorem dX7_lashes_49 : decode cX7_lashes 49 = .ok (.ldc 145, 2) := by decide +kernel
theorem dX7_lashes_51 : decode cX7_lashes 51 = .ok (.ireturn, 1) := by decide +kernel
theorem dX7_lashes_52 : decode cX7_lashes 52 = .ok (.aload_n 0, 1) := by decide +kernel
theorem dX7_lashes_53 : decode cX7_lashes 53 = .ok (.getfield 11, 3) := by decide +kernel
theorem dX7_lashes_56 : decode cX7_lashes 56 = .ok (.iload_n 3, 1) := by decide +kernel
theorem dX7_lashes_57 : decode cX7_lashes 57 = .ok (.aaload, 1) := by decide +kernel
theorem dX7_lashes_58 : decode cX7_lashes 58 = .ok (.iload 4, 2) := by decide +kernel
theorem dX7_lashes_60 : decode cX7_lashes 60 = .ok (.iload 5, 2) := by decide +kernel
theorem dX7_lashes_62 : decode cX7_lashes 62 = .ok (.invokevirtual 82, 3) := by decide +kernel
theorem dX7_lashes_65 : decode cX7_lashes 65 = .ok (.istore 6, 2) := by decide +kernel
theorem dX7_lashes_67 : decode cX7_lashes 67 = .ok (.iload 6, 2) := by decide +kernel
theorem dX7_lashes_69 : decode cX7_lashes 69 = .ok (.ifCond .eq 10, 3) := by decide +kernel
theorem dX7_lashes_72 : decode cX7_lashes 72 = .ok (.aload_n 0, 1) := by decide +kernel
theorem dX7_lashes_73 : decode cX7_lashes 73 = .ok (.iload 6, 2) := by decide +kernel
theorem dX7_lashes_75 : decode cX7_lashes 75 = .ok (.invokevirtual 71, 3) := by decide +kernel
theorem dX7_lashes_78 : decode cX7_lashes 78 = .ok (.ireturn, 1) := by decide +kernel
theorem dX7_lashes_79 : decode cX7_lashes 79 = .ok (.aload_n 0, 1) := by decide +kernel
theorem dX7_lashes_80 : decode cX7_lashes 80 = .ok (.getfield 43, 3) := by decide +kernel
theorem dX7_lashes_83 : decode cX7_lashes 83 = .ok (.aload_n 0, 1) := by decide +kernel
theorem dX7_lashes_84 : decode cX7_lashes 84 = .ok (.getfield 11, 3) := by decide +kernel
theorem dX7_lashes_87 : decode cX7_lashes 87 = .ok (.iload_n 3, 1) := by decide +kernel
theorem dX7_lashes_88 : decode cX7_lashes 88 = .ok (.aaload, 1) := by decide +kernel
theorem dX7_lashes_89 : decode cX7_lashes 89 = .ok (.getfield 93, 3) := by decide +kernel
theorem dX7_lashes_92 : decode cX7_lashes 92 = .ok (.iload 4, 2) := by decide +kernel
theorem dX7_lashes_94 : decode cX7_lashes 94 = .ok (.iload 5, 2) := by decide +kernel
theorem dX7_lashes_96 : decode cX7_lashes 96 = .ok (.invokevirtual 244, 3) := by decide +kernel
theorem dX7_lashes_99 : decode cX7_lashes 99 = .ok (.aload_n 0, 1) := by decide +kernel
theorem dX7_lashes_100 : decode cX7_lashes 100 = .ok (.aload_n 0, 1) := by decide +kernel
theorem dX7_lashes_101 : decode cX7_lashes 101 = .ok (.getfield 43, 3) := by decide +kernel
theorem dX7_lashes_104 : decode cX7_lashes 104 = .ok (.aload_n 0, 1) := by decide +kernel
theorem dX7_lashes_105 : decode cX7_lashes 105 = .ok (.getfield 25, 3) := by decide +kernel
theorem dX7_lashes_108 : decode cX7_lashes 108 = .ok (.iload_n 1, 1) := by decide +kernel
theorem dX7_lashes_109 : decode cX7_lashes 109 = .ok (.iload_n 2, 1) := by decide +kernel
theorem dX7_lashes_110 : decode cX7_lashes 110 = .ok (.invokevirtual 260, 3) := by decide +kernel
theorem dX7_lashes_113 : decode cX7_lashes 113 = .ok (.invokevirtual 79, 3) := by decide +kernel
theorem dX7_lashes_116 : decode cX7_lashes 116 = .ok (.ireturn, 1) := by decide +kernel
theorem dX7_crack_0 : decode cX7_crack 0 = .ok (.aload_n 0, 1) := by decide +kernel
theorem dX7_crack_1 : decode cX7_crack 1 = .ok (.iload_n 1, 1) := by decide +kernel
theorem dX7_crack_2 : decode cX7_crack 2 = .ok (.invokevirtual 166, 3) := by decide +kernel
theorem dX7_crack_5 : decode cX7_crack 5 = .ok (.ifCond .eq 33, 3) := by decide +kernel
theorem dX7_crack_8 : decode cX7_crack 8 = .ok (.iload_n 2, 1) := by decide +kernel
theorem dX7_crack_9 : decode cX7_crack 9 = .ok (.iconst 0, 1) := by decide +kernel
theorem dX7_crack_10 : decode cX7_crack 10 = .ok (.bipush 30, 2) := by decide +kernel
theorem dX7_crack_12 : decode cX7_crack 12 = .ok (.invokestatic 66, 3) := by decide +kernel
theorem dX7_crack_15 : decode cX7_crack 15 = .ok (.ifCond .eq 23, 3) := by decide +kernel
theorem dX7_crack_18 : decode cX7_crack 18 = .ok (.iload_n 3, 1) := by decide +kernel
theorem dX7_crack_19 : decode cX7_crack 19 = .ok (.iconst 0, 1) := by decide +kernel
theorem dX7_crack_20 : decode cX7_crack 20 = .ok (.bipush 10, 2) := by decide +kernel
theorem dX7_crack_22 : decode cX7_crack 22 = .ok (.invokestatic 66, 3) := by decide +kernel
theorem dX7_crack_25 : decode cX7_crack 25 = .ok (.ifCond .eq 13, 3) := by decide +kernel
theorem dX7_crack_28 : decode cX7_crack 28 = .ok (.iload 4, 2) := by decide +kernel
theorem dX7_crack_30 : decode cX7_crack 30 = .ok (.iconst 0, 1) := by decide +kernel
theorem dX7_crack_31 : decode cX7_crack 31 = .ok (.iconst 1, 1) := by decide +kernel
theorem dX7_crack_32 : decode cX7_crack 32 = .ok (.invokestatic 66, 3) := by decide +kernel
theorem dX7_crack_35 : decode cX7_crack 35 = .ok (.ifCond .ne 7, 3) := by decide +kernel
theorem dX7_crack_38 : decode cX7_crack 38 = .ok (.ldc2_w 263, 3) := by decide +kernel
theorem dX7_crack_41 : decode cX7_crack 41 = .ok (.lreturn, 1) := by decide +kernel
theorem dX7_crack_42 : decode cX7_crack 42 = .ok (.aload_n 0, 1) := by decide +kernel
theorem dX7_crack_43 : decode cX7_crack 43 = .ok (.getfield 43, 3) := by decide +kernel
theorem dX7_crack_46 : decode cX7_crack 46 = .ok (.aload_n 0, 1) := by decide +kernel
theorem dX7_crack_47 : decode cX7_crack 47 = .ok (.getfield 25, 3) := by decide +kernel
theorem dX7_crack_50 : decode cX7_crack 50 = .ok (.iload_n 1, 1) := by decide +kernel
theorem dX7_crack_51 : decode cX7_crack 51 = .ok (.iload_n 2, 1) := by decide +kernel
theorem dX7_crack_52 : decode cX7_crack 52 = .ok (.iload_n 3, 1) := by decide +kernel
theorem dX7_crack_53 : decode cX7_crack 53 = .ok (.iload 4, 2) := by decide +kernel
theorem dX7_crack_55 : decode cX7_crack 55 = .ok (.invokevirtual 265, 3) := by decide +kernel
theorem dX7_crack_58 : decode cX7_crack 58 = .ok (.lreturn, 1) := by decide +kernel
theorem dX7_drawn_0 : decode cX7_drawn 0 = .ok (.aload_n 0, 1) := by decide +kernel
theorem dX7_drawn_1 : decode cX7_drawn 1 = .ok (.invokevirtual 149, 3) := by decide +kernel
theorem dX7_drawn_4 : decode cX7_drawn 4 = .ok (.ifCond .eq 6, 3) := by decide +kernel
theorem dX7_drawn_7 : decode cX7_drawn 7 = .ok (.ldc 145, 2) := by decide +kernel
theorem dX7_drawn_9 : decode cX7_drawn 9 = .ok (.ireturn, 1) := by decide +kernel
theorem dX7_drawn_10 : decode cX7_drawn 10 = .ok (.iload_n 1, 1) := by decide +kernel
theorem dX7_drawn_11 : decode cX7_drawn 11 = .ok (.iconst 0, 1) := by decide +kernel
theorem dX7_drawn_12 : decode cX7_drawn 12 = .ok (.bipush 60, 2) := by decide +kernel
theorem dX7_drawn_14 : decode cX7_drawn 14 = .ok (.invokestatic 66, 3) := by decide +kernel
theorem dX7_drawn_17 : decode cX7_drawn 17 = .ok (.ifCond .eq 23, 3) := by decide +kernel
theorem dX7_drawn_20 : decode cX7_drawn 20 = .ok (.iload_n 2, 1) := by decide +kernel
theorem dX7_drawn_21 : decode cX7_drawn 21 = .ok (.iconst 1, 1) := by decide +kernel
theorem dX7_drawn_22 : decode cX7_drawn 22 = .ok (.ldc_w 269, 3) := by decide +kernel
theorem dX7_drawn_25 : decode cX7_drawn 25 = .ok (.invokestatic 66, 3) := by decide +kernel
theorem dX7_drawn_28 : decode cX7_drawn 28 = .ok (.ifCond .eq 12, 3) := by decide +kernel
theorem dX7_drawn_31 : decode cX7_drawn 31 = .ok (.iload_n 3, 1) := by decide +kernel
theorem dX7_drawn_32 : decode cX7_drawn 32 = .ok (.iconst 0, 1) := by decide +kernel
theorem dX7_drawn_33 : decode cX7_drawn 33 = .ok (.iconst 1, 1) := by decide +kernel
theorem dX7_drawn_34 : decode cX7_drawn 34 = .ok (.invokestatic 66, 3) := by decide +kernel
theorem dX7_drawn_37 : decode cX7_drawn 37 = .ok (.ifCond .ne 6, 3) := by decide +kernel
theorem dX7_drawn_40 : decode cX7_drawn 40 = .ok (.ldc 70, 2) := by decide +kernel
theorem dX7_drawn_42 : decode cX7_drawn 42 = .ok (.ireturn, 1) := by decide +kernel
theorem dX7_drawn_43 : decode cX7_drawn 43 = .ok (.aload_n 0, 1) := by decide +kernel
theorem dX7_drawn_44 : decode cX7_drawn 44 = .ok (.getfield 43, 3) := by decide +kernel
theorem dX7_drawn_47 : decode cX7_drawn 47 = .ok (.aload_n 0, 1) := by decide +kernel
theorem dX7_drawn_48 : decode cX7_drawn 48 = .ok (.getfield 25, 3) := by decide +kernel
theorem dX7_drawn_51 : decode cX7_drawn 51 = .ok (.iload_n 1, 1) := by decide +kernel
theorem dX7_drawn_52 : decode cX7_drawn 52 = .ok (.iload_n 2, 1) := by decide +kernel
theorem dX7_drawn_53 : decode cX7_drawn 53 = .ok (.invokevirtual 270, 3) := by decide +kernel
theorem dX7_drawn_56 : decode cX7_drawn 56 = .ok (.astore 4, 2) := by decide +kernel
theorem dX7_drawn_58 : decode cX7_drawn 58 = .ok (.iload_n 3, 1) := by decide +kernel
theorem dX7_drawn_59 : decode cX7_drawn 59 = .ok (.ifCond .ne 11, 3) := by decide +kernel
theorem dX7_drawn_62 : decode cX7_drawn 62 = .ok (.aload 4, 2) := by decide +kernel
theorem dX7_drawn_64 : decode cX7_drawn 64 = .ok (.invokevirtual 162, 3) := by decide +kernel
theorem dX7_drawn_67 : decode cX7_drawn 67 = .ok (.goto 8, 3) := by decide +kernel
theorem dX7_drawn_70 : decode cX7_drawn 70 = .ok (.aload 4, 2) := by decide +kernel
theorem dX7_drawn_72 : decode cX7_drawn 72 = .ok (.invokevirtual 196, 3) := by decide +kernel
theorem dX7_drawn_75 : decode cX7_drawn 75 = .ok (.ireturn, 1) := by decide +kernel
theorem dX7_image_0 : decode cX7_image 0 = .ok (.iload_n 1, 1) := by decide +kernel
theorem dX7_image_1 : decode cX7_image 1 = .ok (.iconst 0, 1) := by decide +kernel
theorem dX7_image_2 : decode cX7_image 2 = .ok (.iconst 1, 1) := by decide +kernel
theorem dX7_image_3 : decode cX7_image 3 = .ok (.invokestatic 66, 3) := by decide +kernel
theorem dX7_image_6 : decode cX7_image 6 = .ok (.ifCond .ne 6, 3) := by decide +kernel
theorem dX7_image_9 : decode cX7_image 9 = .ok (.ldc 70, 2) := by decide +kernel
theorem dX7_image_11 : decode cX7_image 11 = .ok (.ireturn, 1) := by decide +kernel
theorem dX7_image_12 : decode cX7_image 12 = .ok (.aload_n 0, 1) := by decide +kernel
theorem dX7_image_13 : decode cX7_image 13 = .ok (.invokevirtual 149, 3) := by decide +kernel
theorem dX7_image_16 : decode cX7_image 16 = .ok (.ifCond .eq 6, 3) := by decide +kernel
theorem dX7_image_19 : decode cX7_image 19 = .ok (.ldc 145, 2) := by decide +kernel
theorem dX7_image_21 : decode cX7_image 21 = .ok (.ireturn, 1) := by decide +kernel
theorem dX7_image_22 : decode cX7_image 22 = .ok (.aload_n 0, 1) := by decide +kernel
theorem dX7_image_23 : decode cX7_image 23 = .ok (.getfield 29, 3) := by decide +kernel
theorem dX7_image_26 : decode cX7_image 26 = .ok (.iload_n 1, 1) := by decide +kernel
theorem dX7_image_27 : decode cX7_image 27 = .ok (.aaload, 1) := by decide +kernel
theorem dX7_image_28 : decode cX7_image 28 = .ok (.aload_n 0, 1) := by decide +kernel
theorem dX7_image_29 : decode cX7_image 29 = .ok (.getfield 25, 3) := by decide +kernel
theorem dX7_image_32 : decode cX7_image 32 = .ok (.invokevirtual 134, 3) := by decide +kernel
theorem dX7_image_35 : decode cX7_image 35 = .ok (.iconst 1, 1) := by decide +kernel
theorem dX7_image_36 : decode cX7_image 36 = .ok (.ireturn, 1) := by decide +kernel
theorem dX7_restore_0 : decode cX7_restore 0 = .ok (.iload_n 1, 1) := by decide +kernel
theorem dX7_restore_1 : decode cX7_restore 1 = .ok (.iconst 0, 1) := by decide +kernel
theorem dX7_restore_2 : decode cX7_restore 2 = .ok (.iconst 1, 1) := by decide +kernel
theorem dX7_restore_3 : decode cX7_restore 3 = .ok (.invokestatic 66, 3) := by decide +kernel
theorem dX7_restore_6 : decode cX7_restore 6 = .ok (.ifCond .ne 6, 3) := by decide +kernel
theorem dX7_restore_9 : decode cX7_restore 9 = .ok (.ldc 70, 2) := by decide +kernel
theorem dX7_restore_11 : decode cX7_restore 11 = .ok (.ireturn, 1) := by decide +kernel
theorem dX7_restore_12 : decode cX7_restore 12 = .ok (.aload_n 0, 1) := by decide +kernel
theorem dX7_restore_13 : decode cX7_restore 13 = .ok (.getfield 29, 3) := by decide +kernel
theorem dX7_restore_16 : decode cX7_restore 16 = .ok (.iload_n 1, 1) := by decide +kernel
theorem dX7_restore_17 : decode cX7_restore 17 = .ok (.aaload, 1) := by decide +kernel
theorem dX7_restore_18 : decode cX7_restore 18 = .ok (.getfield 141, 3) := by decide +kernel
theorem dX7_restore_21 : decode cX7_restore 21 = .ok (.ifCond .ne 6, 3) := by decide +kernel
theorem dX7_restore_24 : decode cX7_restore 24 = .ok (.ldc 145, 2) := by decide +kernel
theorem dX7_restore_26 : decode cX7_restore 26 = .ok (.ireturn, 1) := by decide +kernel
theorem dX7_restore_27 : decode cX7_restore 27 = .ok (.aload_n 0, 1) := by decide +kernel
theorem dX7_restore_28 : decode cX7_restore 28 = .ok (.getfield 25, 3) := by decide +kernel
theorem dX7_restore_31 : decode cX7_restore 31 = .ok (.aload_n 0, 1) := by decide +kernel
theorem dX7_restore_32 : decode cX7_restore 32 = .ok (.getfield 29, 3) := by decide +kernel
theorem dX7_restore_35 : decode cX7_restore 35 = .ok (.iload_n 1, 1) := by decide +kernel
theorem dX7_restore_36 : decode cX7_restore 36 = .ok (.aaload, 1) := by decide +kernel
theorem dX7_restore_37 : decode cX7_restore 37 = .ok (.invokevirtual 134, 3) := by decide +kernel
theorem dX7_restore_40 : decode cX7_restore 40 = .ok (.aload_n 0, 1) := by decide +kernel
theorem dX7_restore_41 : decode cX7_restore 41 = .ok (.getfield 36, 3) := by decide +kernel
theorem dX7_restore_44 : decode cX7_restore 44 = .ok (.invokevirtual 138, 3) := by decide +kernel
theorem dX7_restore_47 : decode cX7_restore 47 = .ok (.iconst 1, 1) := by decide +kernel
theorem dX7_restore_48 : decode cX7_restore 48 = .ok (.ireturn, 1) := by decide +kernel
theorem dX7_kind_0 : decode cX7_kind 0 = .ok (.aload_n 0, 1) := by decide +kernel
theorem dX7_kind_1 : decode cX7_kind 1 = .ok (.iload_n 1, 1) := by decide +kernel
theorem dX7_kind_2 : decode cX7_kind 2 = .ok (.invokevirtual 166, 3) := by decide +kernel
theorem dX7_kind_5 : decode cX7_kind 5 = .ok (.ifCond .eq 15, 3) := by decide +kernel
theorem dX7_kind_8 : decode cX7_kind 8 = .ok (.aload_n 0, 1) := by decide +kernel
theorem dX7_kind_9 : decode cX7_kind 9 = .ok (.getfield 25, 3) := by decide +kernel
theorem dX7_kind_12 : decode cX7_kind 12 = .ok (.getfield 274, 3) := by decide +kernel
theorem dX7_kind_15 : decode cX7_kind 15 = .ok (.iload_n 1, 1) := by decide +kernel
theorem dX7_kind_16 : decode cX7_kind 16 = .ok (.iaload, 1) := by decide +kernel
theorem dX7_kind_17 : decode cX7_kind 17 = .ok (.goto 5, 3) := by decide +kernel
theorem dX7_kind_20 : decode cX7_kind 20 = .ok (.ldc 70, 2) := by decide +kernel
theorem dX7_kind_22 : decode cX7_kind 22 = .ok (.ireturn, 1) := by decide +kernel
theorem dX7_as_0 : decode cX7_as 0 = .ok (.aload_n 0, 1) := by decide +kernel
theorem dX7_as_1 : decode cX7_as 1 = .ok (.iload_n 1, 1) := by decide +kernel
theorem dX7_as_2 : decode cX7_as 2 = .ok (.invokevirtual 166, 3) := by decide +kernel
theorem dX7_as_5 : decode cX7_as 5 = .ok (.ifCond .eq 12, 3) := by decide +kernel
theorem dX7_as_8 : decode cX7_as 8 = .ok (.iload_n 2, 1) := by decide +kernel
theorem dX7_as_9 : decode cX7_as 9 = .ok (.iconst 0, 1) := by decide +kernel
theorem dX7_as_10 : decode cX7_as 10 = .ok (.iconst 5, 1) := by decide +kernel
theorem dX7_as_11 : decode cX7_as 11 = .ok (.invokestatic 66, 3) := by decide +kernel
theorem dX7_as_14 : decode cX7_as 14 = .ok (.ifCond .ne 6, 3) := by decide +kernel
theorem dX7_as_17 : decode cX7_as 17 = .ok (.ldc 70, 2) := by decide +kernel
theorem dX7_as_19 : decode cX7_as 19 = .ok (.ireturn, 1) := by decide +kernel
theorem dX7_as_20 : decode cX7_as 20 = .ok (.aload_n 0, 1) := by decide +kernel
theorem dX7_as_21 : decode cX7_as 21 = .ok (.getfield 25, 3) := by decide +kernel
theorem dX7_as_24 : decode cX7_as 24 = .ok (.getfield 274, 3) := by decide +kernel
theorem dX7_as_27 : decode cX7_as 27 = .ok (.iload_n 1, 1) := by decide +kernel
theorem dX7_as_28 : decode cX7_as 28 = .ok (.iaload, 1) := by decide +kernel
theorem dX7_as_29 : decode cX7_as 29 = .ok (.iload_n 2, 1) := by decide +kernel
theorem dX7_as_30 : decode cX7_as 30 = .ok (.invokestatic 277, 3) := by decide +kernel
theorem dX7_as_33 : decode cX7_as 33 = .ok (.ifCond .eq 11, 3) := by decide +kernel
theorem dX7_as_36 : decode cX7_as 36 = .ok (.aload_n 0, 1) := by decide +kernel
theorem dX7_as_37 : decode cX7_as 37 = .ok (.iload_n 1, 1) := by decide +kernel
theorem dX7_as_38 : decode cX7_as 38 = .ok (.invokevirtual 79, 3) := by decide +kernel
theorem dX7_as_41 : decode cX7_as 41 = .ok (.goto 8, 3) := by decide +kernel
theorem dX7_as_44 : decode cX7_as 44 = .ok (.aload_n 0, 1) := by decide +kernel
theorem dX7_as_45 : decode cX7_as 45 = .ok (.iconst 3, 1) := by decide +kernel
theorem dX7_as_46 : decode cX7_as 46 = .ok (.invokevirtual 71, 3) := by decide +kernel
theorem dX7_as_49 : decode cX7_as 49 = .ok (.ireturn, 1) := by decide +kernel
theorem dX7_ask_0 : decode cX7_ask 0 = .ok (.aload_n 0, 1) := by decide +kernel
theorem dX7_ask_1 : decode cX7_ask 1 = .ok (.iload_n 1, 1) := by decide +kernel
theorem dX7_ask_2 : decode cX7_ask 2 = .ok (.invokevirtual 166, 3) := by decide +kernel
theorem dX7_ask_5 : decode cX7_ask 5 = .ok (.ifCond .eq 12, 3) := by decide +kernel
theorem dX7_ask_8 : decode cX7_ask 8 = .ok (.iload_n 2, 1) := by decide +kernel
theorem dX7_ask_9 : decode cX7_ask 9 = .ok (.iconst 0, 1) := by decide +kernel
theorem dX7_ask_10 : decode cX7_ask 10 = .ok (.iconst 1, 1) := by decide +kernel
theorem dX7_ask_11 : decode cX7_ask 11 = .ok (.invokestatic 66, 3) := by decide +kernel
theorem dX7_ask_14 : decode cX7_ask 14 = .ok (.ifCond .ne 6, 3) := by decide +kernel
theorem dX7_ask_17 : decode cX7_ask 17 = .ok (.ldc 70, 2) := by decide +kernel
theorem dX7_ask_19 : decode cX7_ask 19 = .ok (.ireturn, 1) := by decide +kernel
theorem dX7_ask_20 : decode cX7_ask 20 = .ok (.aload_n 0, 1) := by decide +kernel
theorem dX7_ask_21 : decode cX7_ask 21 = .ok (.getfield 57, 3) := by decide +kernel
theorem dX7_ask_24 : decode cX7_ask 24 = .ok (.aload_n 0, 1) := by decide +kernel
theorem dX7_ask_25 : decode cX7_ask 25 = .ok (.getfield 25, 3) := by decide +kernel
theorem dX7_ask_28 : decode cX7_ask 28 = .ok (.iload_n 1, 1) := by decide +kernel
theorem dX7_ask_29 : decode cX7_ask 29 = .ok (.invokevirtual 281, 3) := by decide +kernel
theorem dX7_ask_32 : decode cX7_ask 32 = .ok (.iload_n 2, 1) := by decide +kernel
theorem dX7_ask_33 : decode cX7_ask 33 = .ok (.ifCond .ne 13, 3) := by decide +kernel
theorem dX7_ask_36 : decode cX7_ask 36 = .ok (.aload_n 0, 1) := by decide +kernel
theorem dX7_ask_37 : decode cX7_ask 37 = .ok (.getfield 57, 3) := by decide +kernel
theorem dX7_ask_40 : decode cX7_ask 40 = .ok (.invokevirtual 285, 3) := by decide +kernel
theorem dX7_ask_43 : decode cX7_ask 43 = .ok (.goto 10, 3) := by decide +kernel
theorem dX7_ask_46 : decode cX7_ask 46 = .ok (.aload_n 0, 1) := by decide +kernel
theorem dX7_ask_47 : decode cX7_ask 47 = .ok (.getfield 57, 3) := by decide +kernel
theorem dX7_ask_50 : decode cX7_ask 50 = .ok (.invokevirtual 287, 3) := by decide +kernel
theorem dX7_ask_53 : decode cX7_ask 53 = .ok (.ireturn, 1) := by decide +kernel
theorem dX7_trace_0 : decode cX7_trace 0 = .ok (.iload_n 1, 1) := by decide +kernel
theorem dX7_trace_1 : decode cX7_trace 1 = .ok (.iconst 0, 1) := by decide +kernel
theorem dX7_trace_2 : decode cX7_trace 2 = .ok (.aload_n 0, 1) := by decide +kernel
theorem dX7_trace_3 : decode cX7_trace 3 = .ok (.getfield 57, 3) := by decide +kernel
theorem dX7_trace_6 : decode cX7_trace 6 = .ok (.getfield 290, 3) := by decide +kernel
theorem dX7_trace_9 : decode cX7_trace 9 = .ok (.iconst 1, 1) := by decide +kernel
theorem dX7_trace_10 : decode cX7_trace 10 = .ok (.isub, 1) := by decide +kernel
theorem dX7_trace_11 : decode cX7_trace 11 = .ok (.invokestatic 66, 3) := by decide +kernel
theorem dX7_trace_14 : decode cX7_trace 14 = .ok (.ifCond .eq 15, 3) := by decide +kernel
theorem dX7_trace_17 : decode cX7_trace 17 = .ok (.aload_n 0, 1) := by decide +kernel
theorem dX7_trace_18 : decode cX7_trace 18 = .ok (.getfield 57, 3) := by decide +kernel
theorem dX7_trace_21 : decode cX7_trace 21 = .ok (.getfield 293, 3) := by decide +kernel
theorem dX7_trace_24 : decode cX7_trace 24 = .ok (.iload_n 1, 1) := by decide +kernel
theorem dX7_trace_25 : decode cX7_trace 25 = .ok (.iaload, 1) := by decide +kernel
theorem dX7_trace_26 : decode cX7_trace 26 = .ok (.goto 5, 3) := by decide +kernel
theorem dX7_trace_29 : decode cX7_trace 29 = .ok (.ldc 214, 2) := by decide +kernel
theorem dX7_trace_31 : decode cX7_trace 31 = .ok (.ireturn, 1) := by decide +kernel
theorem dX7_count_0 : decode cX7_count 0 = .ok (.iload_n 1, 1) := by decide +kernel
theorem dX7_count_1 : decode cX7_count 1 = .ok (.tableswitch 111 0 7 #[47, 52, 60, 68, 79, 87, 95, 103], 47) := by decide +kernel
theorem dX7_count_48 : decode cX7_count 48 = .ok (.aload_n 0, 1) := by decide +kernel
theorem dX7_count_49 : decode cX7_count 49 = .ok (.invokevirtual 296, 3) := by decide +kernel
theorem dX7_count_52 : decode cX7_count 52 = .ok (.ireturn, 1) := by decide +kernel
theorem dX7_count_53 : decode cX7_count 53 = .ok (.aload_n 0, 1) := by decide +kernel
theorem dX7_count_54 : decode cX7_count 54 = .ok (.getfield 25, 3) := by decide +kernel
theorem dX7_count_57 : decode cX7_count 57 = .ok (.getfield 141, 3) := by decide +kernel
theorem dX7_count_60 : decode cX7_count 60 = .ok (.ireturn, 1) := by decide +kernel
theorem dX7_count_61 : decode cX7_count 61 = .ok (.aload_n 0, 1) := by decide +kernel
theorem dX7_count_62 : decode cX7_count 62 = .ok (.getfield 25, 3) := by decide +kernel
theorem dX7_count_65 : decode cX7_count 65 = .ok (.getfield 153, 3) := by decide +kernel
theorem dX7_count_68 : decode cX7_count 68 = .ok (.ireturn, 1) := by decide +kernel
theorem dX7_count_69 : decode cX7_count 69 = .ok (.aload_n 0, 1) := by decide +kernel
theorem dX7_count_70 : decode cX7_count 70 = .ok (.getfield 25, 3) := by decide +kernel
theorem dX7_count_73 : decode cX7_count 73 = .ok (.invokevirtual 162, 3) := by decide +kernel
theorem dX7_count_76 : decode cX7_count 76 = .ok (.invokestatic 299, 3) := by decide +kernel
theorem dX7_count_79 : decode cX7_count 79 = .ok (.ireturn, 1) := by decide +kernel
theorem dX7_count_80 : decode cX7_count 80 = .ok (.aload_n 0, 1) := by decide +kernel
theorem dX7_count_81 : decode cX7_count 81 = .ok (.getfield 25, 3) := by decide +kernel
theorem dX7_count_84 : decode cX7_count 84 = .ok (.invokevirtual 196, 3) := by decide +kernel
theorem dX7_count_87 : decode cX7_count 87 = .ok (.ireturn, 1) := by decide +kernel
theorem dX7_count_88 : decode cX7_count 88 = .ok (.aload_n 0, 1) := by decide +kernel
theorem dX7_count_89 : decode cX7_count 89 = .ok (.getfield 25, 3) := by decide +kernel
theorem dX7_count_92 : decode cX7_count 92 = .ok (.getfield 178, 3) := by decide +kernel
theorem dX7_count_95 : decode cX7_count 95 = .ok (.ireturn, 1) := by decide +kernel
theorem dX7_count_96 : decode cX7_count 96 = .ok (.aload_n 0, 1) := by decide +kernel
theorem dX7_count_97 : decode cX7_count 97 = .ok (.getfield 36, 3) := by decide +kernel
theorem dX7_count_100 : decode cX7_count 100 = .ok (.getfield 144, 3) := by decide +kernel
theorem dX7_count_103 : decode cX7_count 103 = .ok (.ireturn, 1) := by decide +kernel
theorem dX7_count_104 : decode cX7_count 104 = .ok (.aload_n 0, 1) := by decide +kernel
theorem dX7_count_105 : decode cX7_count 105 = .ok (.getfield 18, 3) := by decide +kernel
theorem dX7_count_108 : decode cX7_count 108 = .ok (.getfield 111, 3) := by decide +kernel
theorem dX7_count_111 : decode cX7_count 111 = .ok (.ireturn, 1) := by decide +kernel
theorem dX7_count_112 : decode cX7_count 112 = .ok (.ldc 70, 2) := by decide +kernel
theorem dX7_count_114 : decode cX7_count 114 = .ok (.ireturn, 1) := by decide +kernel
theorem dX7_status_0 : decode cX7_status 0 = .ok (.aload_n 0, 1) := by decide +kernel
theorem dX7_status_1 : decode cX7_status 1 = .ok (.getfield 304, 3) := by decide +kernel
theorem dX7_status_4 : decode cX7_status 4 = .ok (.ireturn, 1) := by decide +kernel
theorem dX7_within_0 : decode cX7_within 0 = .ok (.iload_n 0, 1) := by decide +kernel
theorem dX7_within_1 : decode cX7_within 1 = .ok (.iload_n 1, 1) := by decide +kernel
theorem dX7_within_2 : decode cX7_within 2 = .ok (.if_icmp .lt 12, 3) := by decide +kernel
theorem dX7_within_5 : decode cX7_within 5 = .ok (.iload_n 0, 1) := by decide +kernel
theorem dX7_within_6 : decode cX7_within 6 = .ok (.iload_n 2, 1) := by decide +kernel
theorem dX7_within_7 : decode cX7_within 7 = .ok (.if_icmp .gt 7, 3) := by decide +kernel
theorem dX7_within_10 : decode cX7_within 10 = .ok (.iconst 1, 1) := by decide +kernel
theorem dX7_within_11 : decode cX7_within 11 = .ok (.goto 4, 3) := by decide +kernel
theorem dX7_within_14 : decode cX7_within 14 = .ok (.iconst 0, 1) := by decide +kernel
theorem dX7_within_15 : decode cX7_within 15 = .ok (.ireturn, 1) := by decide +kernel
theorem dX7_isRow_0 : decode cX7_isRow 0 = .ok (.iload_n 0, 1) := by decide +kernel
theorem dX7_isRow_1 : decode cX7_isRow 1 = .ok (.iconst 0, 1) := by decide +kernel
theorem dX7_isRow_2 : decode cX7_isRow 2 = .ok (.bipush 7, 2) := by decide +kernel
theorem dX7_isRow_4 : decode cX7_isRow 4 = .ok (.invokestatic 66, 3) := by decide +kernel
theorem dX7_isRow_7 : decode cX7_isRow 7 = .ok (.ireturn, 1) := by decide +kernel
theorem dX7_isHouse_0 : decode cX7_isHouse 0 = .ok (.iload_n 1, 1) := by decide +kernel
theorem dX7_isHouse_1 : decode cX7_isHouse 1 = .ok (.iconst 0, 1) := by decide +kernel
theorem dX7_isHouse_2 : decode cX7_isHouse 2 = .ok (.aload_n 0, 1) := by decide +kernel
theorem dX7_isHouse_3 : decode cX7_isHouse 3 = .ok (.getfield 25, 3) := by decide +kernel
theorem dX7_isHouse_6 : decode cX7_isHouse 6 = .ok (.getfield 141, 3) := by decide +kernel
theorem dX7_isHouse_9 : decode cX7_isHouse 9 = .ok (.iconst 1, 1) := by decide +kernel
theorem dX7_isHouse_10 : decode cX7_isHouse 10 = .ok (.isub, 1) := by decide +kernel
theorem dX7_isHouse_11 : decode cX7_isHouse 11 = .ok (.invokestatic 66, 3) := by decide +kernel
theorem dX7_isHouse_14 : decode cX7_isHouse 14 = .ok (.ireturn, 1) := by decide +kernel
theorem dX7_noStreet_0 : decode cX7_noStreet 0 = .ok (.aload_n 0, 1) := by decide +kernel
theorem dX7_noStreet_1 : decode cX7_noStreet 1 = .ok (.getfield 25, 3) := by decide +kernel
theorem dX7_noStreet_4 : decode cX7_noStreet 4 = .ok (.getfield 141, 3) := by decide +kernel
theorem dX7_noStreet_7 : decode cX7_noStreet 7 = .ok (.ifCond .ne 7, 3) := by decide +kernel
theorem dX7_noStreet_10 : decode cX7_noStreet 10 = .ok (.iconst 1, 1) := by decide +kernel
theorem dX7_noStreet_11 : decode cX7_noStreet 11 = .ok (.goto 4, 3) := by decide +kernel
theorem dX7_noStreet_14 : decode cX7_noStreet 14 = .ok (.iconst 0, 1) := by decide +kernel
theorem dX7_noStreet_15 : decode cX7_noStreet 15 = .ok (.ireturn, 1) := by decide +kernel
theorem dX7_found_0 : decode cX7_found 0 = .ok (.aload_n 0, 1) := by decide +kernel
theorem dX7_found_1 : decode cX7_found 1 = .ok (.iload_n 1, 1) := by decide +kernel
theorem dX7_found_2 : decode cX7_found 2 = .ok (.putfield 304, 3) := by decide +kernel
theorem dX7_found_5 : decode cX7_found 5 = .ok (.ldc_w 307, 3) := by decide +kernel
theorem dX7_found_8 : decode cX7_found 8 = .ok (.iload_n 1, 1) := by decide +kernel
theorem dX7_found_9 : decode cX7_found 9 = .ok (.isub, 1) := by decide +kernel
theorem dX7_found_10 : decode cX7_found 10 = .ok (.ireturn, 1) := by decide +kernel
theorem dX7_fine_0 : decode cX7_fine 0 = .ok (.aload_n 0, 1) := by decide +kernel
theorem dX7_fine_1 : decode cX7_fine 1 = .ok (.iconst 0, 1) := by decide +kernel
theorem dX7_fine_2 : decode cX7_fine 2 = .ok (.putfield 304, 3) := by decide +kernel
theorem dX7_fine_5 : decode cX7_fine 5 = .ok (.iload_n 1, 1) := by decide +kernel
theorem dX7_fine_6 : decode cX7_fine 6 = .ok (.ireturn, 1) := by decide +kernel
theorem dX7_rowsThere_0 : decode cX7_rowsThere 0 = .ok (.iconst 0, 1) := by decide +kernel
theorem dX7_rowsThere_1 : decode cX7_rowsThere 1 = .ok (.istore_n 1, 1) := by decide +kernel
theorem dX7_rowsThere_2 : decode cX7_rowsThere 2 = .ok (.iconst 0, 1) := by decide +kernel
theorem dX7_rowsThere_3 : decode cX7_rowsThere 3 = .ok (.istore_n 2, 1) := by decide +kernel
theorem dX7_rowsThere_4 : decode cX7_rowsThere 4 = .ok (.iload_n 2, 1) := by decide +kernel
theorem dX7_rowsThere_5 : decode cX7_rowsThere 5 = .ok (.bipush 8, 2) := by decide +kernel
theorem dX7_rowsThere_7 : decode cX7_rowsThere 7 = .ok (.if_icmp .ge 29, 3) := by decide +kernel
theorem dX7_rowsThere_10 : decode cX7_rowsThere 10 = .ok (.iload_n 1, 1) := by decide +kernel
theorem dX7_rowsThere_11 : decode cX7_rowsThere 11 = .ok (.aload_n 0, 1) := by decide +kernel
theorem dX7_rowsThere_12 : decode cX7_rowsThere 12 = .ok (.getfield 11, 3) := by decide +kernel
theorem dX7_rowsThere_15 : decode cX7_rowsThere 15 = .ok (.iload_n 2, 1) := by decide +kernel
theorem dX7_rowsThere_16 : decode cX7_rowsThere 16 = .ok (.aaload, 1) := by decide +kernel
theorem dX7_rowsThere_17 : decode cX7_rowsThere 17 = .ok (.getfield 103, 3) := by decide +kernel
theorem dX7_rowsThere_20 : decode cX7_rowsThere 20 = .ok (.ifCond .eq 7, 3) := by decide +kernel
theorem dX7_rowsThere_23 : decode cX7_rowsThere 23 = .ok (.iconst 0, 1) := by decide +kernel
theorem dX7_rowsThere_24 : decode cX7_rowsThere 24 = .ok (.goto 4, 3) := by decide +kernel
theorem dX7_rowsThere_27 : decode cX7_rowsThere 27 = .ok (.iconst 1, 1) := by decide +kernel
theorem dX7_rowsThere_28 : decode cX7_rowsThere 28 = .ok (.iadd, 1) := by decide +kernel
theorem dX7_rowsThere_29 : decode cX7_rowsThere 29 = .ok (.istore_n 1, 1) := by decide +kernel
theorem dX7_rowsThere_30 : decode cX7_rowsThere 30 = .ok (.iinc 2 1, 3) := by decide +kernel
theorem dX7_rowsThere_33 : decode cX7_rowsThere 33 = .ok (.goto (-29), 3) := by decide +kernel
theorem dX7_rowsThere_36 : decode cX7_rowsThere 36 = .ok (.iload_n 1, 1) := by decide +kernel
theorem dX7_rowsThere_37 : decode cX7_rowsThere 37 = .ok (.ireturn, 1) := by decide +kernel
theorem dX7_copyFinding_0 : decode cX7_copyFinding 0 = .ok (.aload_n 0, 1) := by decide +kernel
theorem dX7_copyFinding_1 : decode cX7_copyFinding 1 = .ok (.getfield 103, 3) := by decide +kernel
theorem dX7_copyFinding_4 : decode cX7_copyFinding 4 = .ok (.ifCond .ne 10, 3) := by decide +kernel
theorem dX7_copyFinding_7 : decode cX7_copyFinding 7 = .ok (.aload_n 2, 1) := by decide +kernel
theorem dX7_copyFinding_8 : decode cX7_copyFinding 8 = .ok (.getfield 103, 3) := by decide +kernel
theorem dX7_copyFinding_11 : decode cX7_copyFinding 11 = .ok (.ifCond .eq 5, 3) := by decide +kernel
theorem dX7_copyFinding_14 : decode cX7_copyFinding 14 = .ok (.iconst 1, 1) := by decide +kernel
theorem dX7_copyFinding_15 : decode cX7_copyFinding 15 = .ok (.ireturn, 1) := by decide +kernel
theorem dX7_copyFinding_16 : decode cX7_copyFinding 16 = .ok (.aload_n 0, 1) := by decide +kernel
theorem dX7_copyFinding_17 : decode cX7_copyFinding 17 = .ok (.getfield 308, 3) := by decide +kernel
theorem dX7_copyFinding_20 : decode cX7_copyFinding 20 = .ok (.aload_n 2, 1) := by decide +kernel
theorem dX7_copyFinding_21 : decode cX7_copyFinding 21 = .ok (.getfield 308, 3) := by decide +kernel
theorem dX7_copyFinding_24 : decode cX7_copyFinding 24 = .ok (.if_icmp .eq 5, 3) := by decide +kernel
theorem dX7_copyFinding_27 : decode cX7_copyFinding 27 = .ok (.iconst 5, 1) := by decide +kernel
theorem dX7_copyFinding_28 : decode cX7_copyFinding 28 = .ok (.ireturn, 1) := by decide +kernel
theorem dX7_copyFinding_29 : decode cX7_copyFinding 29 = .ok (.aload_n 0, 1) := by decide +kernel
theorem dX7_copyFinding_30 : decode cX7_copyFinding 30 = .ok (.iload_n 1, 1) := by decide +kernel
theorem dX7_copyFinding_31 : decode cX7_copyFinding 31 = .ok (.iload 4, 2) := by decide +kernel
theorem dX7_copyFinding_33 : decode cX7_copyFinding 33 = .ok (.invokevirtual 82, 3) := by decide +kernel
theorem dX7_copyFinding_36 : decode cX7_copyFinding 36 = .ok (.istore 5, 2) := by decide +kernel
theorem dX7_copyFinding_38 : decode cX7_copyFinding 38 = .ok (.iload 5, 2) := by decide +kernel
theorem dX7_copyFinding_40 : decode cX7_copyFinding 40 = .ok (.ifCond .eq 8, 3) := by decide +kernel
theorem dX7_copyFinding_43 : decode cX7_copyFinding 43 = .ok (.iload 5, 2) := by decide +kernel
theorem dX7_copyFinding_45 : decode cX7_copyFinding 45 = .ok (.goto 10, 3) := by decide +kernel
theorem dX7_copyFinding_48 : decode cX7_copyFinding 48 = .ok (.aload_n 2, 1) := by decide +kernel
theorem dX7_copyFinding_49 : decode cX7_copyFinding 49 = .ok (.iload_n 3, 1) := by decide +kernel
theorem dX7_copyFinding_50 : decode cX7_copyFinding 50 = .ok (.iload 4, 2) := by decide +kernel
theorem dX7_copyFinding_52 : decode cX7_copyFinding 52 = .ok (.invokevirtual 82, 3) := by decide +kernel
theorem dX7_copyFinding_55 : decode cX7_copyFinding 55 = .ok (.ireturn, 1) := by decide +kernel
theorem dX7_isOfKind_0 : decode cX7_isOfKind 0 = .ok (.iload_n 1, 1) := by decide +kernel
theorem dX7_isOfKind_1 : decode cX7_isOfKind 1 = .ok (.tableswitch 74 0 4 #[35, 37, 74, 74, 58], 35) := by decide +kernel
theorem dX7_isOfKind_36 : decode cX7_isOfKind 36 = .ok (.iconst 1, 1) := by decide +kernel
theorem dX7_isOfKind_37 : decode cX7_isOfKind 37 = .ok (.ireturn, 1) := by decide +kernel
theorem dX7_isOfKind_38 : decode cX7_isOfKind 38 = .ok (.iload_n 0, 1) := by decide +kernel
theorem dX7_isOfKind_39 : decode cX7_isOfKind 39 = .ok (.iconst 1, 1) := by decide +kernel
theorem dX7_isOfKind_40 : decode cX7_isOfKind 40 = .ok (.if_icmp .eq 13, 3) := by decide +kernel
theorem dX7_isOfKind_43 : decode cX7_isOfKind 43 = .ok (.iload_n 0, 1) := by decide +kernel
theorem dX7_isOfKind_44 : decode cX7_isOfKind 44 = .ok (.iconst 2, 1) := by decide +kernel
theorem dX7_isOfKind_45 : decode cX7_isOfKind 45 = .ok (.if_icmp .eq 8, 3) := by decide +kernel
theorem dX7_isOfKind_48 : decode cX7_isOfKind 48 = .ok (.iload_n 0, 1) := by decide +kernel
theorem dX7_isOfKind_49 : decode cX7_isOfKind 49 = .ok (.iconst 3, 1) := by decide +kernel
theorem dX7_isOfKind_50 : decode cX7_isOfKind 50 = .ok (.if_icmp .ne 7, 3) := by decide +kernel
theorem dX7_isOfKind_53 : decode cX7_isOfKind 53 = .ok (.iconst 1, 1) := by decide +kernel
theorem dX7_isOfKind_54 : decode cX7_isOfKind 54 = .ok (.goto 4, 3) := by decide +kernel
theorem dX7_isOfKind_57 : decode cX7_isOfKind 57 = .ok (.iconst 0, 1) := by decide +kernel
theorem dX7_isOfKind_58 : decode cX7_isOfKind 58 = .ok (.ireturn, 1) := by decide +kernel
theorem dX7_isOfKind_59 : decode cX7_isOfKind 59 = .ok (.iload_n 0, 1) := by decide +kernel
theorem dX7_isOfKind_60 : decode cX7_isOfKind 60 = .ok (.iconst 4, 1) := by decide +kernel
theorem dX7_isOfKind_61 : decode cX7_isOfKind 61 = .ok (.if_icmp .eq 8, 3) := by decide +kernel
theorem dX7_isOfKind_64 : decode cX7_isOfKind 64 = .ok (.iload_n 0, 1) := by decide +kernel
theorem dX7_isOfKind_65 : decode cX7_isOfKind 65 = .ok (.iconst 5, 1) := by decide +kernel
theorem dX7_isOfKind_66 : decode cX7_isOfKind 66 = .ok (.if_icmp .ne 7, 3) := by decide +kernel
theorem dX7_isOfKind_69 : decode cX7_isOfKind 69 = .ok (.iconst 1, 1) := by decide +kernel
theorem dX7_isOfKind_70 : decode cX7_isOfKind 70 = .ok (.goto 4, 3) := by decide +kernel
theorem dX7_isOfKind_73 : decode cX7_isOfKind 73 = .ok (.iconst 0, 1) := by decide +kernel
theorem dX7_isOfKind_74 : decode cX7_isOfKind 74 = .ok (.ireturn, 1) := by decide +kernel
theorem dX7_isOfKind_75 : decode cX7_isOfKind 75 = .ok (.iload_n 0, 1) := by decide +kernel
theorem dX7_isOfKind_76 : decode cX7_isOfKind 76 = .ok (.iload_n 1, 1) := by decide +kernel
theorem dX7_isOfKind_77 : decode cX7_isOfKind 77 = .ok (.if_icmp .ne 7, 3) := by decide +kernel
theorem dX7_isOfKind_80 : decode cX7_isOfKind 80 = .ok (.iconst 1, 1) := by decide +kernel
theorem dX7_isOfKind_81 : decode cX7_isOfKind 81 = .ok (.goto 4, 3) := by decide +kernel
theorem dX7_isOfKind_84 : decode cX7_isOfKind 84 = .ok (.iconst 0, 1) := by decide +kernel
theorem dX7_isOfKind_85 : decode cX7_isOfKind 85 = .ok (.ireturn, 1) := by decide +kernel
theorem dJ6_bitCount_0f7a4_0 : decode cJ6_bitCount_0f7a4 0 = .ok (.iload_n 0, 1) := by decide +kernel
theorem dJ6_bitCount_0f7a4_1 : decode cJ6_bitCount_0f7a4 1 = .ok (.iload_n 0, 1) := by decide +kernel
theorem dJ6_bitCount_0f7a4_2 : decode cJ6_bitCount_0f7a4 2 = .ok (.iconst 1, 1) := by decide +kernel
theorem dJ6_bitCount_0f7a4_3 : decode cJ6_bitCount_0f7a4 3 = .ok (.iushr, 1) := by decide +kernel
theorem dJ6_bitCount_0f7a4_4 : decode cJ6_bitCount_0f7a4 4 = .ok (.ldc_w 265, 3) := by decide +kernel
theorem dJ6_bitCount_0f7a4_7 : decode cJ6_bitCount_0f7a4 7 = .ok (.iand, 1) := by decide +kernel
theorem dJ6_bitCount_0f7a4_8 : decode cJ6_bitCount_0f7a4 8 = .ok (.isub, 1) := by decide +kernel
theorem dJ6_bitCount_0f7a4_9 : decode cJ6_bitCount_0f7a4 9 = .ok (.istore_n 0, 1) := by decide +kernel
theorem dJ6_bitCount_0f7a4_10 : decode cJ6_bitCount_0f7a4 10 = .ok (.iload_n 0, 1) := by decide +kernel
theorem dJ6_bitCount_0f7a4_11 : decode cJ6_bitCount_0f7a4 11 = .ok (.ldc_w 266, 3) := by decide +kernel
theorem dJ6_bitCount_0f7a4_14 : decode cJ6_bitCount_0f7a4 14 = .ok (.iand, 1) := by decide +kernel
theorem dJ6_bitCount_0f7a4_15 : decode cJ6_bitCount_0f7a4 15 = .ok (.iload_n 0, 1) := by decide +kernel
theorem dJ6_bitCount_0f7a4_16 : decode cJ6_bitCount_0f7a4 16 = .ok (.iconst 2, 1) := by decide +kernel
theorem dJ6_bitCount_0f7a4_17 : decode cJ6_bitCount_0f7a4 17 = .ok (.iushr, 1) := by decide +kernel
theorem dJ6_bitCount_0f7a4_18 : decode cJ6_bitCount_0f7a4 18 = .ok (.ldc_w 266, 3) := by decide +kernel
theorem dJ6_bitCount_0f7a4_21 : decode cJ6_bitCount_0f7a4 21 = .ok (.iand, 1) := by decide +kernel
theorem dJ6_bitCount_0f7a4_22 : decode cJ6_bitCount_0f7a4 22 = .ok (.iadd, 1) := by decide +kernel
theorem dJ6_bitCount_0f7a4_23 : decode cJ6_bitCount_0f7a4 23 = .ok (.istore_n 0, 1) := by decide +kernel
theorem dJ6_bitCount_0f7a4_24 : decode cJ6_bitCount_0f7a4 24 = .ok (.iload_n 0, 1) := by decide +kernel
theorem dJ6_bitCount_0f7a4_25 : decode cJ6_bitCount_0f7a4 25 = .ok (.iload_n 0, 1) := by decide +kernel
theorem dJ6_bitCount_0f7a4_26 : decode cJ6_bitCount_0f7a4 26 = .ok (.iconst 4, 1) := by decide +kernel
theorem dJ6_bitCount_0f7a4_27 : decode cJ6_bitCount_0f7a4 27 = .ok (.iushr, 1) := by decide +kernel
theorem dJ6_bitCount_0f7a4_28 : decode cJ6_bitCount_0f7a4 28 = .ok (.iadd, 1) := by decide +kernel
theorem dJ6_bitCount_0f7a4_29 : decode cJ6_bitCount_0f7a4 29 = .ok (.ldc_w 267, 3) := by decide +kernel
theorem dJ6_bitCount_0f7a4_32 : decode cJ6_bitCount_0f7a4 32 = .ok (.iand, 1) := by decide +kernel
theorem dJ6_bitCount_0f7a4_33 : decode cJ6_bitCount_0f7a4 33 = .ok (.istore_n 0, 1) := by decide +kernel
theorem dJ6_bitCount_0f7a4_34 : decode cJ6_bitCount_0f7a4 34 = .ok (.iload_n 0, 1) := by decide +kernel
theorem dJ6_bitCount_0f7a4_35 : decode cJ6_bitCount_0f7a4 35 = .ok (.iload_n 0, 1) := by decide +kernel
theorem dJ6_bitCount_0f7a4_36 : decode cJ6_bitCount_0f7a4 36 = .ok (.bipush 8, 2) := by decide +kernel
theorem dJ6_bitCount_0f7a4_38 : decode cJ6_bitCount_0f7a4 38 = .ok (.iushr, 1) := by decide +kernel
theorem dJ6_bitCount_0f7a4_39 : decode cJ6_bitCount_0f7a4 39 = .ok (.iadd, 1) := by decide +kernel
theorem dJ6_bitCount_0f7a4_40 : decode cJ6_bitCount_0f7a4 40 = .ok (.istore_n 0, 1) := by decide +kernel
theorem dJ6_bitCount_0f7a4_41 : decode cJ6_bitCount_0f7a4 41 = .ok (.iload_n 0, 1) := by decide +kernel
theorem dJ6_bitCount_0f7a4_42 : decode cJ6_bitCount_0f7a4 42 = .ok (.iload_n 0, 1) := by decide +kernel
theorem dJ6_bitCount_0f7a4_43 : decode cJ6_bitCount_0f7a4 43 = .ok (.bipush 16, 2) := by decide +kernel
theorem dJ6_bitCount_0f7a4_45 : decode cJ6_bitCount_0f7a4 45 = .ok (.iushr, 1) := by decide +kernel
theorem dJ6_bitCount_0f7a4_46 : decode cJ6_bitCount_0f7a4 46 = .ok (.iadd, 1) := by decide +kernel
theorem dJ6_bitCount_0f7a4_47 : decode cJ6_bitCount_0f7a4 47 = .ok (.istore_n 0, 1) := by decide +kernel
theorem dJ6_bitCount_0f7a4_48 : decode cJ6_bitCount_0f7a4 48 = .ok (.iload_n 0, 1) := by decide +kernel
theorem dJ6_bitCount_0f7a4_49 : decode cJ6_bitCount_0f7a4 49 = .ok (.bipush 63, 2) := by decide +kernel
theorem dJ6_bitCount_0f7a4_51 : decode cJ6_bitCount_0f7a4 51 = .ok (.iand, 1) := by decide +kernel
theorem dJ6_bitCount_0f7a4_52 : decode cJ6_bitCount_0f7a4 52 = .ok (.ireturn, 1) := by decide +kernel
theorem dJ0_indexOf_0f7a4_0 : decode cJ0_indexOf_0f7a4 0 = .ok (.aload_n 0, 1) := by decide +kernel
theorem dJ0_indexOf_0f7a4_1 : decode cJ0_indexOf_0f7a4 1 = .ok (.iload_n 1, 1) := by decide +kernel
theorem dJ0_indexOf_0f7a4_2 : decode cJ0_indexOf_0f7a4 2 = .ok (.iconst 0, 1) := by decide +kernel
theorem dJ0_indexOf_0f7a4_3 : decode cJ0_indexOf_0f7a4 3 = .ok (.invokevirtual 633, 3) := by decide +kernel
theorem dJ0_indexOf_0f7a4_6 : decode cJ0_indexOf_0f7a4 6 = .ok (.ireturn, 1) := by decide +kernel
theorem dJ0_indexOf_7cf53_0 : decode cJ0_indexOf_7cf53 0 = .ok (.aload_n 0, 1) := by decide +kernel
theorem dJ0_indexOf_7cf53_1 : decode cJ0_indexOf_7cf53 1 = .ok (.invokevirtual 492, 3) := by decide +kernel
theorem dJ0_indexOf_7cf53_4 : decode cJ0_indexOf_7cf53 4 = .ok (.ifCond .eq 19, 3) := by decide +kernel
theorem dJ0_indexOf_7cf53_7 : decode cJ0_indexOf_7cf53 7 = .ok (.aload_n 0, 1) := by decide +kernel
theorem dJ0_indexOf_7cf53_8 : decode cJ0_indexOf_7cf53 8 = .ok (.getfield 9, 3) := by decide +kernel
theorem dJ0_indexOf_7cf53_11 : decode cJ0_indexOf_7cf53 11 = .ok (.iload_n 1, 1) := by decide +kernel
theorem dJ0_indexOf_7cf53_12 : decode cJ0_indexOf_7cf53 12 = .ok (.iload_n 2, 1) := by decide +kernel
theorem dJ0_indexOf_7cf53_13 : decode cJ0_indexOf_7cf53 13 = .ok (.aload_n 0, 1) := by decide +kernel
theorem dJ0_indexOf_7cf53_14 : decode cJ0_indexOf_7cf53 14 = .ok (.invokevirtual 505, 3) := by decide +kernel
theorem dJ0_indexOf_7cf53_17 : decode cJ0_indexOf_7cf53 17 = .ok (.invokestatic 637, 3) := by decide +kernel
theorem dJ0_indexOf_7cf53_20 : decode cJ0_indexOf_7cf53 20 = .ok (.goto 16, 3) := by decide +kernel
theorem dJ0_indexOf_7cf53_23 : decode cJ0_indexOf_7cf53 23 = .ok (.aload_n 0, 1) := by decide +kernel
theorem dJ0_indexOf_7cf53_24 : decode cJ0_indexOf_7cf53 24 = .ok (.getfield 9, 3) := by decide +kernel
theorem dJ0_indexOf_7cf53_27 : decode cJ0_indexOf_7cf53 27 = .ok (.iload_n 1, 1) := by decide +kernel
theorem dJ0_indexOf_7cf53_28 : decode cJ0_indexOf_7cf53 28 = .ok (.iload_n 2, 1) := by decide +kernel
theorem dJ0_indexOf_7cf53_29 : decode cJ0_indexOf_7cf53 29 = .ok (.aload_n 0, 1) := by decide +kernel
theorem dJ0_indexOf_7cf53_30 : decode cJ0_indexOf_7cf53 30 = .ok (.invokevirtual 505, 3) := by decide +kernel
theorem dJ0_indexOf_7cf53_33 : decode cJ0_indexOf_7cf53 33 = .ok (.invokestatic 640, 3) := by decide +kernel
theorem dJ0_indexOf_7cf53_36 : decode cJ0_indexOf_7cf53 36 = .ok (.ireturn, 1) := by decide +kernel
theorem dJ0_coder_7d493_0 : decode cJ0_coder_7d493 0 = .ok (.getstatic 38, 3) := by decide +kernel
theorem dJ0_coder_7d493_3 : decode cJ0_coder_7d493 3 = .ok (.ifCond .eq 10, 3) := by decide +kernel
theorem dJ0_coder_7d493_6 : decode cJ0_coder_7d493 6 = .ok (.aload_n 0, 1) := by decide +kernel
theorem dJ0_coder_7d493_7 : decode cJ0_coder_7d493 7 = .ok (.getfield 15, 3) := by decide +kernel
theorem dJ0_coder_7d493_10 : decode cJ0_coder_7d493 10 = .ok (.goto 4, 3) := by decide +kernel
theorem dJ0_coder_7d493_13 : decode cJ0_coder_7d493 13 = .ok (.iconst 1, 1) := by decide +kernel
theorem dJ0_coder_7d493_14 : decode cJ0_coder_7d493 14 = .ok (.ireturn, 1) := by decide +kernel
theorem dJ0_isLatin1_aae02_0 : decode cJ0_isLatin1_aae02 0 = .ok (.getstatic 38, 3) := by decide +kernel
theorem dJ0_isLatin1_aae02_3 : decode cJ0_isLatin1_aae02 3 = .ok (.ifCond .eq 14, 3) := by decide +kernel
theorem dJ0_isLatin1_aae02_6 : decode cJ0_isLatin1_aae02 6 = .ok (.aload_n 0, 1) := by decide +kernel
theorem dJ0_isLatin1_aae02_7 : decode cJ0_isLatin1_aae02 7 = .ok (.getfield 15, 3) := by decide +kernel
theorem dJ0_isLatin1_aae02_10 : decode cJ0_isLatin1_aae02 10 = .ok (.ifCond .ne 7, 3) := by decide +kernel
theorem dJ0_isLatin1_aae02_13 : decode cJ0_isLatin1_aae02 13 = .ok (.iconst 1, 1) := by decide +kernel
theorem dJ0_isLatin1_aae02_14 : decode cJ0_isLatin1_aae02 14 = .ok (.goto 4, 3) := by decide +kernel
theorem dJ0_isLatin1_aae02_17 : decode cJ0_isLatin1_aae02 17 = .ok (.iconst 0, 1) := by decide +kernel
theorem dJ0_isLatin1_aae02_18 : decode cJ0_isLatin1_aae02 18 = .ok (.ireturn, 1) := by decide +kernel
theorem dJ1_canEncode_9a6ad_0 : decode cJ1_canEncode_9a6ad 0 = .ok (.iload_n 0, 1) := by decide +kernel
theorem dJ1_canEncode_9a6ad_1 : decode cJ1_canEncode_9a6ad 1 = .ok (.ifCond .lt 14, 3) := by decide +kernel
theorem dJ1_canEncode_9a6ad_4 : decode cJ1_canEncode_9a6ad 4 = .ok (.iload_n 0, 1) := by decide +kernel
theorem dJ1_canEncode_9a6ad_5 : decode cJ1_canEncode_9a6ad 5 = .ok (.sipush 255, 3) := by decide +kernel
theorem dJ1_canEncode_9a6ad_8 : decode cJ1_canEncode_9a6ad 8 = .ok (.if_icmp .gt 7, 3) := by decide +kernel
theorem dJ1_canEncode_9a6ad_11 : decode cJ1_canEncode_9a6ad 11 = .ok (.iconst 1, 1) := by decide +kernel
theorem dJ1_canEncode_9a6ad_12 : decode cJ1_canEncode_9a6ad 12 = .ok (.goto 4, 3) := by decide +kernel
theorem dJ1_canEncode_9a6ad_15 : decode cJ1_canEncode_9a6ad 15 = .ok (.iconst 0, 1) := by decide +kernel
theorem dJ1_canEncode_9a6ad_16 : decode cJ1_canEncode_9a6ad 16 = .ok (.ireturn, 1) := by decide +kernel
theorem dJ1_indexOf_4cfef_0 : decode cJ1_indexOf_4cfef 0 = .ok (.iload_n 1, 1) := by decide +kernel
theorem dJ1_indexOf_4cfef_1 : decode cJ1_indexOf_4cfef 1 = .ok (.invokestatic 88, 3) := by decide +kernel
theorem dJ1_indexOf_4cfef_4 : decode cJ1_indexOf_4cfef 4 = .ok (.ifCond .ne 5, 3) := by decide +kernel
theorem dJ1_indexOf_4cfef_7 : decode cJ1_indexOf_4cfef 7 = .ok (.iconst (-1), 1) := by decide +kernel
theorem dJ1_indexOf_4cfef_8 : decode cJ1_indexOf_4cfef 8 = .ok (.ireturn, 1) := by decide +kernel
theorem dJ1_indexOf_4cfef_9 : decode cJ1_indexOf_4cfef 9 = .ok (.iload_n 2, 1) := by decide +kernel
theorem dJ1_indexOf_4cfef_10 : decode cJ1_indexOf_4cfef 10 = .ok (.iconst 0, 1) := by decide +kernel
theorem dJ1_indexOf_4cfef_11 : decode cJ1_indexOf_4cfef 11 = .ok (.invokestatic 92, 3) := by decide +kernel
theorem dJ1_indexOf_4cfef_14 : decode cJ1_indexOf_4cfef 14 = .ok (.istore_n 2, 1) := by decide +kernel
theorem dJ1_indexOf_4cfef_15 : decode cJ1_indexOf_4cfef 15 = .ok (.iload_n 3, 1) := by decide +kernel
theorem dJ1_indexOf_4cfef_16 : decode cJ1_indexOf_4cfef 16 = .ok (.aload_n 0, 1) := by decide +kernel
theorem dJ1_indexOf_4cfef_17 : decode cJ1_indexOf_4cfef 17 = .ok (.arraylength, 1) := by decide +kernel
theorem dJ1_indexOf_4cfef_18 : decode cJ1_indexOf_4cfef 18 = .ok (.invokestatic 38, 3) := by decide +kernel
theorem dJ1_indexOf_4cfef_21 : decode cJ1_indexOf_4cfef 21 = .ok (.istore_n 3, 1) := by decide +kernel
theorem dJ1_indexOf_4cfef_22 : decode cJ1_indexOf_4cfef 22 = .ok (.iload_n 2, 1) := by decide +kernel
theorem dJ1_indexOf_4cfef_23 : decode cJ1_indexOf_4cfef 23 = .ok (.iload_n 3, 1) := by decide +kernel
theorem dJ1_indexOf_4cfef_24 : decode cJ1_indexOf_4cfef 24 = .ok (.if_icmp .lt 5, 3) := by decide +kernel
theorem dJ1_indexOf_4cfef_27 : decode cJ1_indexOf_4cfef 27 = .ok (.iconst (-1), 1) := by decide +kernel
theorem dJ1_indexOf_4cfef_28 : decode cJ1_indexOf_4cfef 28 = .ok (.ireturn, 1) := by decide +kernel
theorem dJ1_indexOf_4cfef_29 : decode cJ1_indexOf_4cfef 29 = .ok (.aload_n 0, 1) := by decide +kernel
theorem dJ1_indexOf_4cfef_30 : decode cJ1_indexOf_4cfef 30 = .ok (.iload_n 1, 1) := by decide +kernel
theorem dJ1_indexOf_4cfef_31 : decode cJ1_indexOf_4cfef 31 = .ok (.iload_n 2, 1) := by decide +kernel
theorem dJ1_indexOf_4cfef_32 : decode cJ1_indexOf_4cfef 32 = .ok (.iload_n 3, 1) := by decide +kernel
theorem dJ1_indexOf_4cfef_33 : decode cJ1_indexOf_4cfef 33 = .ok (.invokestatic 95, 3) := by decide +kernel
theorem dJ1_indexOf_4cfef_36 : decode cJ1_indexOf_4cfef 36 = .ok (.ireturn, 1) := by decide +kernel
theorem dJ1_indexOfChar_4cfef_0 : decode cJ1_indexOfChar_4cfef 0 = .ok (.iload_n 1, 1) := by decide +kernel
theorem dJ1_indexOfChar_4cfef_1 : decode cJ1_indexOfChar_4cfef 1 = .ok (.i2b, 1) := by decide +kernel
theorem dJ1_indexOfChar_4cfef_2 : decode cJ1_indexOfChar_4cfef 2 = .ok (.istore 4, 2) := by decide +kernel
theorem dJ1_indexOfChar_4cfef_4 : decode cJ1_indexOfChar_4cfef 4 = .ok (.iload_n 2, 1) := by decide +kernel
theorem dJ1_indexOfChar_4cfef_5 : decode cJ1_indexOfChar_4cfef 5 = .ok (.istore 5, 2) := by decide +kernel
theorem dJ1_indexOfChar_4cfef_7 : decode cJ1_indexOfChar_4cfef 7 = .ok (.iload 5, 2) := by decide +kernel
theorem dJ1_indexOfChar_4cfef_9 : decode cJ1_indexOfChar_4cfef 9 = .ok (.iload_n 3, 1) := by decide +kernel
theorem dJ1_indexOfChar_4cfef_10 : decode cJ1_indexOfChar_4cfef 10 = .ok (.if_icmp .ge 21, 3) := by decide +kernel
theorem dJ1_indexOfChar_4cfef_13 : decode cJ1_indexOfChar_4cfef 13 = .ok (.aload_n 0, 1) := by decide +kernel
theorem dJ1_indexOfChar_4cfef_14 : decode cJ1_indexOfChar_4cfef 14 = .ok (.iload 5, 2) := by decide +kernel
theorem dJ1_indexOfChar_4cfef_16 : decode cJ1_indexOfChar_4cfef 16 = .ok (.baload, 1) := by decide +kernel
theorem dJ1_indexOfChar_4cfef_17 : decode cJ1_indexOfChar_4cfef 17 = .ok (.iload 4, 2) := by decide +kernel
theorem dJ1_indexOfChar_4cfef_19 : decode cJ1_indexOfChar_4cfef 19 = .ok (.if_icmp .ne 6, 3) := by decide +kernel
theorem dJ1_indexOfChar_4cfef_22 : decode cJ1_indexOfChar_4cfef 22 = .ok (.iload 5, 2) := by decide +kernel
theorem dJ1_indexOfChar_4cfef_24 : decode cJ1_indexOfChar_4cfef 24 = .ok (.ireturn, 1) := by decide +kernel
theorem dJ1_indexOfChar_4cfef_25 : decode cJ1_indexOfChar_4cfef 25 = .ok (.iinc 5 1, 3) := by decide +kernel
theorem dJ1_indexOfChar_4cfef_28 : decode cJ1_indexOfChar_4cfef 28 = .ok (.goto (-21), 3) := by decide +kernel
theorem dJ1_indexOfChar_4cfef_31 : decode cJ1_indexOfChar_4cfef 31 = .ok (.iconst (-1), 1) := by decide +kernel
theorem dJ1_indexOfChar_4cfef_32 : decode cJ1_indexOfChar_4cfef 32 = .ok (.ireturn, 1) := by decide +kernel
end
section
theorem dX8_init_0 : decode cX8_init 0 = .ok (.aload_n 0, 1) := by decide +kernel
theorem dX8_init_1 : decode cX8_init 1 = .ok (.invokespecial 1, 3) := by decide +kernel
theorem dX8_init_4 : decode cX8_init 4 = .ok (.aload_n 0, 1) := by decide +kernel
theorem dX8_init_5 : decode cX8_init 5 = .ok (.bipush 8, 2) := by decide +kernel
theorem dX8_init_7 : decode cX8_init 7 = .ok (.newarray .int, 2) := by decide +kernel
theorem dX8_init_9 : decode cX8_init 9 = .ok (.putfield 7, 3) := by decide +kernel
theorem dX8_init_12 : decode cX8_init 12 = .ok (.aload_n 0, 1) := by decide +kernel
theorem dX8_init_13 : decode cX8_init 13 = .ok (.bipush 8, 2) := by decide +kernel
theorem dX8_init_15 : decode cX8_init 15 = .ok (.newarray .int, 2) := by decide +kernel
theorem dX8_init_17 : decode cX8_init 17 = .ok (.putfield 13, 3) := by decide +kernel
theorem dX8_init_20 : decode cX8_init 20 = .ok (.aload_n 0, 1) := by decide +kernel
theorem dX8_init_21 : decode cX8_init 21 = .ok (.sipush 320, 3) := by decide +kernel
theorem dX8_init_24 : decode cX8_init 24 = .ok (.newarray .int, 2) := by decide +kernel
theorem dX8_init_26 : decode cX8_init 26 = .ok (.putfield 16, 3) := by decide +kernel
theorem dX8_init_29 : decode cX8_init 29 = .ok (.aload_n 0, 1) := by decide +kernel
theorem dX8_init_30 : decode cX8_init 30 = .ok (.bipush 29, 2) := by decide +kernel
theorem dX8_init_32 : decode cX8_init 32 = .ok (.newarray .int, 2) := by decide +kernel
theorem dX8_init_34 : decode cX8_init 34 = .ok (.putfield 19, 3) := by decide +kernel
theorem dX8_init_37 : decode cX8_init 37 = .ok (.aload_n 0, 1) := by decide +kernel
theorem dX8_init_38 : decode cX8_init 38 = .ok (.bipush 40, 2) := by decide +kernel
theorem dX8_init_40 : decode cX8_init 40 = .ok (.newarray .int, 2) := by decide +kernel
theorem dX8_init_42 : decode cX8_init 42 = .ok (.putfield 22, 3) := by decide +kernel
theorem dX8_init_45 : decode cX8_init 45 = .ok (.aload_n 0, 1) := by decide +kernel
theorem dX8_init_46 : decode cX8_init 46 = .ok (.bipush 100, 2) := by decide +kernel
theorem dX8_init_48 : decode cX8_init 48 = .ok (.newarray .int, 2) := by decide +kernel
theorem dX8_init_50 : decode cX8_init 50 = .ok (.putfield 25, 3) := by decide +kernel
theorem dX8_init_53 : decode cX8_init 53 = .ok (.aload_n 0, 1) := by decide +kernel
theorem dX8_init_54 : decode cX8_init 54 = .ok (.bipush 29, 2) := by decide +kernel
theorem dX8_init_56 : decode cX8_init 56 = .ok (.newarray .int, 2) := by decide +kernel
theorem dX8_init_58 : decode cX8_init 58 = .ok (.putfield 28, 3) := by decide +kernel
theorem dX8_init_61 : decode cX8_init 61 = .ok (.aload_n 0, 1) := by decide +kernel
theorem dX8_init_62 : decode cX8_init 62 = .ok (.sipush 696, 3) := by decide +kernel
theorem dX8_init_65 : decode cX8_init 65 = .ok (.newarray .int, 2) := by decide +kernel
theorem dX8_init_67 : decode cX8_init 67 = .ok (.putfield 31, 3) := by decide +kernel
theorem dX8_init_70 : decode cX8_init 70 = .ok (.aload_n 0, 1) := by decide +kernel
theorem dX8_init_71 : decode cX8_init 71 = .ok (.bipush 29, 2) := by decide +kernel
theorem dX8_init_73 : decode cX8_init 73 = .ok (.newarray .int, 2) := by decide +kernel
theorem dX8_init_75 : decode cX8_init 75 = .ok (.putfield 34, 3) := by decide +kernel
theorem dX8_init_78 : decode cX8_init 78 = .ok (.aload_n 0, 1) := by decide +kernel
theorem dX8_init_79 : decode cX8_init 79 = .ok (.sipush 625, 3) := by decide +kernel
theorem dX8_init_82 : decode cX8_init 82 = .ok (.newarray .int, 2) := by decide +kernel
theorem dX8_init_84 : decode cX8_init 84 = .ok (.putfield 37, 3) := by decide +kernel
theorem dX8_init_87 : decode cX8_init 87 = .ok (.aload_n 0, 1) := by decide +kernel
theorem dX8_init_88 : decode cX8_init 88 = .ok (.iconst 2, 1) := by decide +kernel
theorem dX8_init_89 : decode cX8_init 89 = .ok (.newarray .boolean, 2) := by decide +kernel
theorem dX8_init_91 : decode cX8_init 91 = .ok (.putfield 40, 3) := by decide +kernel
theorem dX8_init_94 : decode cX8_init 94 = .ok (.aload_n 0, 1) := by decide +kernel
theorem dX8_init_95 : decode cX8_init 95 = .ok (.bipush 58, 2) := by decide +kernel
theorem dX8_init_97 : decode cX8_init 97 = .ok (.newarray .int, 2) := by decide +kernel
theorem dX8_init_99 : decode cX8_init 99 = .ok (.putfield 44, 3) := by decide +kernel
theorem dX8_init_102 : decode cX8_init 102 = .ok (.aload_n 0, 1) := by decide +kernel
theorem dX8_init_103 : decode cX8_init 103 = .ok (.bipush 16, 2) := by decide +kernel
theorem dX8_init_105 : decode cX8_init 105 = .ok (.newarray .int, 2) := by decide +kernel
theorem dX8_init_107 : decode cX8_init 107 = .ok (.putfield 47, 3) := by decide +kernel
theorem dX8_init_110 : decode cX8_init 110 = .ok (.iconst 0, 1) := by decide +kernel
theorem dX8_init_111 : decode cX8_init 111 = .ok (.istore_n 1, 1) := by decide +kernel
theorem dX8_init_112 : decode cX8_init 112 = .ok (.iload_n 1, 1) := by decide +kernel
theorem dX8_init_113 : decode cX8_init 113 = .ok (.bipush 8, 2) := by decide +kernel
theorem dX8_init_115 : decode cX8_init 115 = .ok (.if_icmp .ge 16, 3) := by decide +kernel
theorem dX8_init_118 : decode cX8_init 118 = .ok (.aload_n 0, 1) := by decide +kernel
theorem dX8_init_119 : decode cX8_init 119 = .ok (.getfield 13, 3) := by decide +kernel
theorem dX8_init_122 : decode cX8_init 122 = .ok (.iload_n 1, 1) := by decide +kernel
theorem dX8_init_123 : decode cX8_init 123 = .ok (.iconst (-1), 1) := by decide +kernel
theorem dX8_init_124 : decode cX8_init 124 = .ok (.iastore, 1) := by decide +kernel
theorem dX8_init_125 : decode cX8_init 125 = .ok (.iinc 1 1, 3) := by decide +kernel
theorem dX8_init_128 : decode cX8_init 128 = .ok (.goto (-16), 3) := by decide +kernel
theorem dX8_init_131 : decode cX8_init 131 = .ok (.return_, 1) := by decide +kernel
theorem dX8_in_0 : decode cX8_in 0 = .ok (.lload_n 0, 1) := by decide +kernel
theorem dX8_in_1 : decode cX8_in 1 = .ok (.lload_n 2, 1) := by decide +kernel
theorem dX8_in_2 : decode cX8_in 2 = .ok (.lcmp, 1) := by decide +kernel
theorem dX8_in_3 : decode cX8_in 3 = .ok (.ifCond .lt 14, 3) := by decide +kernel
theorem dX8_in_6 : decode cX8_in 6 = .ok (.lload_n 0, 1) := by decide +kernel
theorem dX8_in_7 : decode cX8_in 7 = .ok (.lload 4, 2) := by decide +kernel
theorem dX8_in_9 : decode cX8_in 9 = .ok (.lcmp, 1) := by decide +kernel
theorem dX8_in_10 : decode cX8_in 10 = .ok (.ifCond .gt 7, 3) := by decide +kernel
theorem dX8_in_13 : decode cX8_in 13 = .ok (.iconst 1, 1) := by decide +kernel
theorem dX8_in_14 : decode cX8_in 14 = .ok (.goto 4, 3) := by decide +kernel
theorem dX8_in_17 : decode cX8_in 17 = .ok (.iconst 0, 1) := by decide +kernel
theorem dX8_in_18 : decode cX8_in 18 = .ok (.ireturn, 1) := by decide +kernel
theorem dX8_has_0 : decode cX8_has 0 = .ok (.iload_n 0, 1) := by decide +kernel
theorem dX8_has_1 : decode cX8_has 1 = .ok (.iload_n 1, 1) := by decide +kernel
theorem dX8_has_2 : decode cX8_has 2 = .ok (.ishr, 1) := by decide +kernel
theorem dX8_has_3 : decode cX8_has 3 = .ok (.iconst 1, 1) := by decide +kernel
theorem dX8_has_4 : decode cX8_has 4 = .ok (.iand, 1) := by decide +kernel
theorem dX8_has_5 : decode cX8_has 5 = .ok (.iconst 1, 1) := by decide +kernel
theorem dX8_has_6 : decode cX8_has 6 = .ok (.if_icmp .ne 7, 3) := by decide +kernel
theorem dX8_has_9 : decode cX8_has 9 = .ok (.iconst 1, 1) := by decide +kernel
theorem dX8_has_10 : decode cX8_has 10 = .ok (.goto 4, 3) := by decide +kernel
theorem dX8_has_13 : decode cX8_has 13 = .ok (.iconst 0, 1) := by decide +kernel
theorem dX8_has_14 : decode cX8_has 14 = .ok (.ireturn, 1) := by decide +kernel
theorem dX8_ones_0 : decode cX8_ones 0 = .ok (.iconst 0, 1) := by decide +kernel
theorem dX8_ones_1 : decode cX8_ones 1 = .ok (.istore_n 1, 1) := by decide +kernel
theorem dX8_ones_2 : decode cX8_ones 2 = .ok (.iload_n 0, 1) := by decide +kernel
theorem dX8_ones_3 : decode cX8_ones 3 = .ok (.istore_n 2, 1) := by decide +kernel
theorem dX8_ones_4 : decode cX8_ones 4 = .ok (.iload_n 2, 1) := by decide +kernel
theorem dX8_ones_5 : decode cX8_ones 5 = .ok (.ifCond .eq 15, 3) := by decide +kernel
theorem dX8_ones_8 : decode cX8_ones 8 = .ok (.iinc 1 1, 3) := by decide +kernel
theorem dX8_ones_11 : decode cX8_ones 11 = .ok (.iload_n 2, 1) := by decide +kernel
theorem dX8_ones_12 : decode cX8_ones 12 = .ok (.iload_n 2, 1) := by decide +kernel
theorem dX8_ones_13 : decode cX8_ones 13 = .ok (.iconst 1, 1) := by decide +kernel
theorem dX8_ones_14 : decode cX8_ones 14 = .ok (.isub, 1) := by decide +kernel
theorem dX8_ones_15 : decode cX8_ones 15 = .ok (.iand, 1) := by decide +kernel
theorem dX8_ones_16 : decode cX8_ones 16 = .ok (.istore_n 2, 1) := by decide +kernel
theorem dX8_ones_17 : decode cX8_ones 17 = .ok (.goto (-13), 3) := by decide +kernel
theorem dX8_ones_20 : decode cX8_ones 20 = .ok (.iload_n 1, 1) := by decide +kernel
theorem dX8_ones_21 : decode cX8_ones 21 = .ok (.ireturn, 1) := by decide +kernel
theorem dX8_find_0 : decode cX8_find 0 = .ok (.aload_n 0, 1) := by decide +kernel
theorem dX8_find_1 : decode cX8_find 1 = .ok (.iload_n 1, 1) := by decide +kernel
theorem dX8_find_2 : decode cX8_find 2 = .ok (.putfield 50, 3) := by decide +kernel
theorem dX8_find_5 : decode cX8_find 5 = .ok (.ldc 54, 2) := by decide +kernel
theorem dX8_find_7 : decode cX8_find 7 = .ok (.iload_n 1, 1) := by decide +kernel
theorem dX8_find_8 : decode cX8_find 8 = .ok (.isub, 1) := by decide +kernel
theorem dX8_find_9 : decode cX8_find 9 = .ok (.ireturn, 1) := by decide +kernel
theorem dX8_well_0 : decode cX8_well 0 = .ok (.aload_n 0, 1) := by decide +kernel
theorem dX8_well_1 : decode cX8_well 1 = .ok (.iconst 0, 1) := by decide +kernel
theorem dX8_well_2 : decode cX8_well 2 = .ok (.putfield 50, 3) := by decide +kernel
theorem dX8_well_5 : decode cX8_well 5 = .ok (.iload_n 1, 1) := by decide +kernel
theorem dX8_well_6 : decode cX8_well 6 = .ok (.ireturn, 1) := by decide +kernel
theorem dX8_isRow_0 : decode cX8_isRow 0 = .ok (.iload_n 0, 1) := by decide +kernel
theorem dX8_isRow_1 : decode cX8_isRow 1 = .ok (.i2l, 1) := by decide +kernel
theorem dX8_isRow_2 : decode cX8_isRow 2 = .ok (.lconst 0, 1) := by decide +kernel
theorem dX8_isRow_3 : decode cX8_isRow 3 = .ok (.ldc2_w 55, 3) := by decide +kernel
theorem dX8_isRow_6 : decode cX8_isRow 6 = .ok (.invokestatic 57, 3) := by decide +kernel
theorem dX8_isRow_9 : decode cX8_isRow 9 = .ok (.ireturn, 1) := by decide +kernel
theorem dX8_row_0 : decode cX8_row 0 = .ok (.iload_n 1, 1) := by decide +kernel
theorem dX8_row_1 : decode cX8_row 1 = .ok (.invokestatic 61, 3) := by decide +kernel
theorem dX8_row_4 : decode cX8_row 4 = .ok (.ifCond .eq 21, 3) := by decide +kernel
theorem dX8_row_7 : decode cX8_row 7 = .ok (.iload_n 2, 1) := by decide +kernel
theorem dX8_row_8 : decode cX8_row 8 = .ok (.i2l, 1) := by decide +kernel
theorem dX8_row_9 : decode cX8_row 9 = .ok (.lconst 0, 1) := by decide +kernel
theorem dX8_row_10 : decode cX8_row 10 = .ok (.ldc2_w 65, 3) := by decide +kernel
theorem dX8_row_13 : decode cX8_row 13 = .ok (.invokestatic 57, 3) := by decide +kernel
theorem dX8_row_16 : decode cX8_row 16 = .ok (.ifCond .eq 9, 3) := by decide +kernel
theorem dX8_row_19 : decode cX8_row 19 = .ok (.iload_n 3, 1) := by decide +kernel
theorem dX8_row_20 : decode cX8_row 20 = .ok (.bipush 40, 2) := by decide +kernel
theorem dX8_row_22 : decode cX8_row 22 = .ok (.if_icmp .le 6, 3) := by decide +kernel
theorem dX8_row_25 : decode cX8_row 25 = .ok (.ldc 67, 2) := by decide +kernel
theorem dX8_row_27 : decode cX8_row 27 = .ok (.ireturn, 1) := by decide +kernel
theorem dX8_row_28 : decode cX8_row 28 = .ok (.iload_n 3, 1) := by decide +kernel
theorem dX8_row_29 : decode cX8_row 29 = .ok (.ifCond .ge 9, 3) := by decide +kernel
theorem dX8_row_32 : decode cX8_row 32 = .ok (.aload_n 0, 1) := by decide +kernel
theorem dX8_row_33 : decode cX8_row 33 = .ok (.iconst 4, 1) := by decide +kernel
theorem dX8_row_34 : decode cX8_row 34 = .ok (.invokevirtual 68, 3) := by decide +kernel
theorem dX8_row_37 : decode cX8_row 37 = .ok (.ireturn, 1) := by decide +kernel
theorem dX8_row_38 : decode cX8_row 38 = .ok (.aload_n 0, 1) := by decide +kernel
theorem dX8_row_39 : decode cX8_row 39 = .ok (.getfield 7, 3) := by decide +kernel
theorem dX8_row_42 : decode cX8_row 42 = .ok (.iload_n 1, 1) := by decide +kernel
theorem dX8_row_43 : decode cX8_row 43 = .ok (.iload_n 2, 1) := by decide +kernel
theorem dX8_row_44 : decode cX8_row 44 = .ok (.iastore, 1) := by decide +kernel
theorem dX8_row_45 : decode cX8_row 45 = .ok (.aload_n 0, 1) := by decide +kernel
theorem dX8_row_46 : decode cX8_row 46 = .ok (.getfield 13, 3) := by decide +kernel
theorem dX8_row_49 : decode cX8_row 49 = .ok (.iload_n 1, 1) := by decide +kernel
theorem dX8_row_50 : decode cX8_row 50 = .ok (.iload_n 3, 1) := by decide +kernel
theorem dX8_row_51 : decode cX8_row 51 = .ok (.iastore, 1) := by decide +kernel
theorem dX8_row_52 : decode cX8_row 52 = .ok (.iconst 0, 1) := by decide +kernel
theorem dX8_row_53 : decode cX8_row 53 = .ok (.istore 4, 2) := by decide +kernel
theorem dX8_row_55 : decode cX8_row 55 = .ok (.iload 4, 2) := by decide +kernel
theorem dX8_row_57 : decode cX8_row 57 = .ok (.bipush 40, 2) := by decide +kernel
theorem dX8_row_59 : decode cX8_row 59 = .ok (.if_icmp .ge 22, 3) := by decide +kernel
theorem dX8_row_62 : decode cX8_row 62 = .ok (.aload_n 0, 1) := by decide +kernel
theorem dX8_row_63 : decode cX8_row 63 = .ok (.getfield 16, 3) := by decide +kernel
theorem dX8_row_66 : decode cX8_row 66 = .ok (.bipush 40, 2) := by decide +kernel
theorem dX8_row_68 : decode cX8_row 68 = .ok (.iload_n 1, 1) := by decide +kernel
theorem dX8_row_69 : decode cX8_row 69 = .ok (.imul, 1) := by decide +kernel
theorem dX8_row_70 : decode cX8_row 70 = .ok (.iload 4, 2) := by decide +kernel
theorem dX8_row_72 : decode cX8_row 72 = .ok (.iadd, 1) := by decide +kernel
theorem dX8_row_73 : decode cX8_row 73 = .ok (.iconst 0, 1) := by decide +kernel
theorem dX8_row_74 : decode cX8_row 74 = .ok (.iastore, 1) := by decide +kernel
theorem dX8_row_75 : decode cX8_row 75 = .ok (.iinc 4 1, 3) := by decide +kernel
theorem dX8_row_78 : decode cX8_row 78 = .ok (.goto (-23), 3) := by decide +kernel
theorem dX8_row_81 : decode cX8_row 81 = .ok (.aload_n 0, 1) := by decide +kernel
theorem dX8_row_82 : decode cX8_row 82 = .ok (.iload_n 3, 1) := by decide +kernel
theorem dX8_row_83 : decode cX8_row 83 = .ok (.invokevirtual 72, 3) := by decide +kernel
theorem dX8_row_86 : decode cX8_row 86 = .ok (.ireturn, 1) := by decide +kernel
theorem dX8_asLane_0 : decode cX8_asLane 0 = .ok (.iload_n 0, 1) := by decide +kernel
theorem dX8_asLane_1 : decode cX8_asLane 1 = .ok (.ifCond .ne 13, 3) := by decide +kernel
theorem dX8_asLane_4 : decode cX8_asLane 4 = .ok (.iload_n 1, 1) := by decide +kernel
theorem dX8_asLane_5 : decode cX8_asLane 5 = .ok (.bipush 24, 2) := by decide +kernel
theorem dX8_asLane_7 : decode cX8_asLane 7 = .ok (.ishl, 1) := by decide +kernel
theorem dX8_asLane_8 : decode cX8_asLane 8 = .ok (.bipush 24, 2) := by decide +kernel
theorem dX8_asLane_10 : decode cX8_asLane 10 = .ok (.ishr, 1) := by decide +kernel
theorem dX8_asLane_11 : decode cX8_asLane 11 = .ok (.goto 19, 3) := by decide +kernel
theorem dX8_asLane_14 : decode cX8_asLane 14 = .ok (.iload_n 0, 1) := by decide +kernel
theorem dX8_asLane_15 : decode cX8_asLane 15 = .ok (.iconst 1, 1) := by decide +kernel
theorem dX8_asLane_16 : decode cX8_asLane 16 = .ok (.if_icmp .ne 13, 3) := by decide +kernel
theorem dX8_asLane_19 : decode cX8_asLane 19 = .ok (.iload_n 1, 1) := by decide +kernel
theorem dX8_asLane_20 : decode cX8_asLane 20 = .ok (.bipush 16, 2) := by decide +kernel
theorem dX8_asLane_22 : decode cX8_asLane 22 = .ok (.ishl, 1) := by decide +kernel
theorem dX8_asLane_23 : decode cX8_asLane 23 = .ok (.bipush 16, 2) := by decide +kernel
theorem dX8_asLane_25 : decode cX8_asLane 25 = .ok (.ishr, 1) := by decide +kernel
theorem dX8_asLane_26 : decode cX8_asLane 26 = .ok (.goto 4, 3) := by decide +kernel
theorem dX8_asLane_29 : decode cX8_asLane 29 = .ok (.iload_n 1, 1) := by decide +kernel
theorem dX8_asLane_30 : decode cX8_asLane 30 = .ok (.ireturn, 1) := by decide +kernel
theorem dX8_set_0 : decode cX8_set 0 = .ok (.iload_n 1, 1) := by decide +kernel
theorem dX8_set_1 : decode cX8_set 1 = .ok (.invokestatic 61, 3) := by decide +kernel
theorem dX8_set_4 : decode cX8_set 4 = .ok (.ifCond .ne 6, 3) := by decide +kernel
theorem dX8_set_7 : decode cX8_set 7 = .ok (.ldc 67, 2) := by decide +kernel
theorem dX8_set_9 : decode cX8_set 9 = .ok (.ireturn, 1) := by decide +kernel
theorem dX8_set_10 : decode cX8_set 10 = .ok (.aload_n 0, 1) := by decide +kernel
theorem dX8_set_11 : decode cX8_set 11 = .ok (.getfield 13, 3) := by decide +kernel
theorem dX8_set_14 : decode cX8_set 14 = .ok (.iload_n 1, 1) := by decide +kernel
theorem dX8_set_15 : decode cX8_set 15 = .ok (.iaload, 1) := by decide +kernel
theorem dX8_set_16 : decode cX8_set 16 = .ok (.ifCond .ge 9, 3) := by decide +kernel
theorem dX8_set_19 : decode cX8_set 19 = .ok (.aload_n 0, 1) := by decide +kernel
theorem dX8_set_20 : decode cX8_set 20 = .ok (.iconst 1, 1) := by decide +kernel
theorem dX8_set_21 : decode cX8_set 21 = .ok (.invokevirtual 68, 3) := by decide +kernel
theorem dX8_set_24 : decode cX8_set 24 = .ok (.ireturn, 1) := by decide +kernel
theorem dX8_set_25 : decode cX8_set 25 = .ok (.iload_n 2, 1) := by decide +kernel
theorem dX8_set_26 : decode cX8_set 26 = .ok (.i2l, 1) := by decide +kernel
theorem dX8_set_27 : decode cX8_set 27 = .ok (.lconst 0, 1) := by decide +kernel
theorem dX8_set_28 : decode cX8_set 28 = .ok (.aload_n 0, 1) := by decide +kernel
theorem dX8_set_29 : decode cX8_set 29 = .ok (.getfield 13, 3) := by decide +kernel
theorem dX8_set_32 : decode cX8_set 32 = .ok (.iload_n 1, 1) := by decide +kernel
theorem dX8_set_33 : decode cX8_set 33 = .ok (.iaload, 1) := by decide +kernel
theorem dX8_set_34 : decode cX8_set 34 = .ok (.iconst 1, 1) := by decide +kernel
theorem dX8_set_35 : decode cX8_set 35 = .ok (.isub, 1) := by decide +kernel
theorem dX8_set_36 : decode cX8_set 36 = .ok (.i2l, 1) := by decide +kernel
theorem dX8_set_37 : decode cX8_set 37 = .ok (.invokestatic 57, 3) := by decide +kernel
theorem dX8_set_40 : decode cX8_set 40 = .ok (.ifCond .ne 9, 3) := by decide +kernel
theorem dX8_set_43 : decode cX8_set 43 = .ok (.aload_n 0, 1) := by decide +kernel
theorem dX8_set_44 : decode cX8_set 44 = .ok (.iconst 2, 1) := by decide +kernel
theorem dX8_set_45 : decode cX8_set 45 = .ok (.invokevirtual 68, 3) := by decide +kernel
theorem dX8_set_48 : decode cX8_set 48 = .ok (.ireturn, 1) := by decide +kernel
theorem dX8_set_49 : decode cX8_set 49 = .ok (.aload_n 0, 1) := by decide +kernel
theorem dX8_set_50 : decode cX8_set 50 = .ok (.getfield 16, 3) := by decide +kernel
theorem dX8_set_53 : decode cX8_set 53 = .ok (.bipush 40, 2) := by decide +kernel
theorem dX8_set_55 : decode cX8_set 55 = .ok (.iload_n 1, 1) := by decide +kernel
theorem dX8_set_56 : decode cX8_set 56 = .ok (.imul, 1) := by decide +kernel
theorem dX8_set_57 : decode cX8_set 57 = .ok (.iload_n 2, 1) := by decide +kernel
theorem dX8_set_58 : decode cX8_set 58 = .ok (.iadd, 1) := by decide +kernel
theorem dX8_set_59 : decode cX8_set 59 = .ok (.aload_n 0, 1) := by decide +kernel
theorem dX8_set_60 : decode cX8_set 60 = .ok (.getfield 7, 3) := by decide +kernel
theorem dX8_set_63 : decode cX8_set 63 = .ok (.iload_n 1, 1) := by decide +kernel
theorem dX8_set_64 : decode cX8_set 64 = .ok (.iaload, 1) := by decide +kernel
theorem dX8_set_65 : decode cX8_set 65 = .ok (.iload_n 3, 1) := by decide +kernel
theorem dX8_set_66 : decode cX8_set 66 = .ok (.invokestatic 75, 3) := by decide +kernel
theorem dX8_set_69 : decode cX8_set 69 = .ok (.iastore, 1) := by decide +kernel
theorem dX8_set_70 : decode cX8_set 70 = .ok (.aload_n 0, 1) := by decide +kernel
theorem dX8_set_71 : decode cX8_set 71 = .ok (.aload_n 0, 1) := by decide +kernel
theorem dX8_set_72 : decode cX8_set 72 = .ok (.getfield 16, 3) := by decide +kernel
theorem dX8_set_75 : decode cX8_set 75 = .ok (.bipush 40, 2) := by decide +kernel
theorem dX8_set_77 : decode cX8_set 77 = .ok (.iload_n 1, 1) := by decide +kernel
theorem dX8_set_78 : decode cX8_set 78 = .ok (.imul, 1) := by decide +kernel
theorem dX8_set_79 : decode cX8_set 79 = .ok (.iload_n 2, 1) := by decide +kernel
theorem dX8_set_80 : decode cX8_set 80 = .ok (.iadd, 1) := by decide +kernel
theorem dX8_set_81 : decode cX8_set 81 = .ok (.iaload, 1) := by decide +kernel
theorem dX8_set_82 : decode cX8_set 82 = .ok (.invokevirtual 72, 3) := by decide +kernel
theorem dX8_set_85 : decode cX8_set 85 = .ok (.ireturn, 1) := by decide +kernel
theorem dX8_copy_0 : decode cX8_copy 0 = .ok (.iload_n 1, 1) := by decide +kernel
theorem dX8_copy_1 : decode cX8_copy 1 = .ok (.invokestatic 61, 3) := by decide +kernel
theorem dX8_copy_4 : decode cX8_copy 4 = .ok (.ifCond .eq 10, 3) := by decide +kernel
theorem dX8_copy_7 : decode cX8_copy 7 = .ok (.iload_n 3, 1) := by decide +kernel
theorem dX8_copy_8 : decode cX8_copy 8 = .ok (.invokestatic 61, 3) := by decide +kernel
theorem dX8_copy_11 : decode cX8_copy 11 = .ok (.ifCond .ne 6, 3) := by decide +kernel
theorem dX8_copy_14 : decode cX8_copy 14 = .ok (.ldc 67, 2) := by decide +kernel
theorem dX8_copy_16 : decode cX8_copy 16 = .ok (.ireturn, 1) := by decide +kernel
theorem dX8_copy_17 : decode cX8_copy 17 = .ok (.aload_n 0, 1) := by decide +kernel
theorem dX8_copy_18 : decode cX8_copy 18 = .ok (.getfield 13, 3) := by decide +kernel
theorem dX8_copy_21 : decode cX8_copy 21 = .ok (.iload_n 1, 1) := by decide +kernel
theorem dX8_copy_22 : decode cX8_copy 22 = .ok (.iaload, 1) := by decide +kernel
theorem dX8_copy_23 : decode cX8_copy 23 = .ok (.ifCond .lt 12, 3) := by decide +kernel
theorem dX8_copy_26 : decode cX8_copy 26 = .ok (.aload_n 0, 1) := by decide +kernel
theorem dX8_copy_27 : decode cX8_copy 27 = .ok (.getfield 13, 3) := by decide +kernel
theorem dX8_copy_30 : decode cX8_copy 30 = .ok (.iload_n 3, 1) := by decide +kernel
theorem dX8_copy_31 : decode cX8_copy 31 = .ok (.iaload, 1) := by decide +kernel
theorem dX8_copy_32 : decode cX8_copy 32 = .ok (.ifCond .ge 9, 3) := by decide +kernel
theorem dX8_copy_35 : decode cX8_copy 35 = .ok (.aload_n 0, 1) := by decide +kernel
theorem dX8_copy_36 : decode cX8_copy 36 = .ok (.iconst 1, 1) := by decide +kernel
theorem dX8_copy_37 : decode cX8_copy 37 = .ok (.invokevirtual 68, 3) := by decide +kernel
theorem dX8_copy_40 : decode cX8_copy 40 = .ok (.ireturn, 1) := by decide +kernel
theorem dX8_copy_41 : decode cX8_copy 41 = .ok (.aload_n 0, 1) := by decide +kernel
theorem dX8_copy_42 : decode cX8_copy 42 = .ok (.getfield 7, 3) := by decide +kernel
theorem dX8_copy_45 : decode cX8_copy 45 = .ok (.iload_n 1, 1) := by decide +kernel
theorem dX8_copy_46 : decode cX8_copy 46 = .ok (.iaload, 1) := by decide +kernel
theorem dX8_copy_47 : decode cX8_copy 47 = .ok (.aload_n 0, 1) := by decide +kernel
theorem dX8_copy_48 : decode cX8_copy 48 = .ok (.getfield 7, 3) := by decide +kernel
theorem dX8_copy_51 : decode cX8_copy 51 = .ok (.iload_n 3, 1) := by decide +kernel
theorem dX8_copy_52 : decode cX8_copy 52 = .ok (.iaload, 1) := by decide +kernel
theorem dX8_copy_53 : decode cX8_copy 53 = .ok (.if_icmp .eq 9, 3) := by decide +kernel
theorem dX8_copy_56 : decode cX8_copy 56 = .ok (.aload_n 0, 1) := by decide +kernel
theorem dX8_copy_57 : decode cX8_copy 57 = .ok (.iconst 5, 1) := by decide +kernel
theorem dX8_copy_58 : decode cX8_copy 58 = .ok (.invokevirtual 68, 3) := by decide +kernel
theorem dX8_copy_61 : decode cX8_copy 61 = .ok (.ireturn, 1) := by decide +kernel
theorem dX8_copy_62 : decode cX8_copy 62 = .ok (.iload 5, 2) := by decide +kernel
theorem dX8_copy_64 : decode cX8_copy 64 = .ok (.ifCond .lt 44, 3) := by decide +kernel
theorem dX8_copy_67 : decode cX8_copy 67 = .ok (.iload_n 2, 1) := by decide +kernel
theorem dX8_copy_68 : decode cX8_copy 68 = .ok (.i2l, 1) := by decide +kernel
theorem dX8_copy_69 : decode cX8_copy 69 = .ok (.lconst 0, 1) := by decide +kernel
theorem dX8_copy_70 : decode cX8_copy 70 = .ok (.aload_n 0, 1) := by decide +kernel
theorem dX8_copy_71 : decode cX8_copy 71 = .ok (.getfield 13, 3) := by decide +kernel
theorem dX8_copy_74 : decode cX8_copy 74 = .ok (.iload_n 1, 1) := by decide +kernel
theorem dX8_copy_75 : decode cX8_copy 75 = .ok (.iaload, 1) := by decide +kernel
theorem dX8_copy_76 : decode cX8_copy 76 = .ok (.i2l, 1) := by decide +kernel
theorem dX8_copy_77 : decode cX8_copy 77 = .ok (.iload 5, 2) := by decide +kernel
theorem dX8_copy_79 : decode cX8_copy 79 = .ok (.i2l, 1) := by decide +kernel
theorem dX8_copy_80 : decode cX8_copy 80 = .ok (.lsub, 1) := by decide +kernel
theorem dX8_copy_81 : decode cX8_copy 81 = .ok (.invokestatic 57, 3) := by decide +kernel
theorem dX8_copy_84 : decode cX8_copy 84 = .ok (.ifCond .eq 24, 3) := by decide +kernel
theorem dX8_copy_87 : decode cX8_copy 87 = .ok (.iload 4, 2) := by decide +kernel
theorem dX8_copy_89 : decode cX8_copy 89 = .ok (.i2l, 1) := by decide +kernel
theorem dX8_copy_90 : decode cX8_copy 90 = .ok (.lconst 0, 1) := by decide +kernel
theorem dX8_copy_91 : decode cX8_copy 91 = .ok (.aload_n 0, 1) := by decide +kernel
theorem dX8_copy_92 : decode cX8_copy 92 = .ok (.getfield 13, 3) := by decide +kernel
theorem dX8_copy_95 : decode cX8_copy 95 = .ok (.iload_n 3, 1) := by decide +kernel
theorem dX8_copy_96 : decode cX8_copy 96 = .ok (.iaload, 1) := by decide +kernel
theorem dX8_copy_97 : decode cX8_copy 97 = .ok (.i2l, 1) := by decide +kernel
theorem dX8_copy_98 : decode cX8_copy 98 = .ok (.iload 5, 2) := by decide +kernel
theorem dX8_copy_100 : decode cX8_copy 100 = .ok (.i2l, 1) := by decide +kernel
theorem dX8_copy_101 : decode cX8_copy 101 = .ok (.lsub, 1) := by decide +kernel
theorem dX8_copy_102 : decode cX8_copy 102 = .ok (.invokestatic 57, 3) := by decide +kernel
theorem dX8_copy_105 : decode cX8_copy 105 = .ok (.ifCond .ne 9, 3) := by decide +kernel
theorem dX8_copy_108 : decode cX8_copy 108 = .ok (.aload_n 0, 1) := by decide +kernel
theorem dX8_copy_109 : decode cX8_copy 109 = .ok (.iconst 2, 1) := by decide +kernel
theorem dX8_copy_110 : decode cX8_copy 110 = .ok (.invokevirtual 68, 3) := by decide +kernel
theorem dX8_copy_113 : decode cX8_copy 113 = .ok (.ireturn, 1) := by decide +kernel
theorem dX8_copy_114 : decode cX8_copy 114 = .ok (.iconst 0, 1) := by decide +kernel
theorem dX8_copy_115 : decode cX8_copy 115 = .ok (.istore 6, 2) := by decide +kernel
theorem dX8_copy_117 : decode cX8_copy 117 = .ok (.iload 6, 2) := by decide +kernel
theorem dX8_copy_119 : decode cX8_copy 119 = .ok (.iload 5, 2) := by decide +kernel
theorem dX8_copy_121 : decode cX8_copy 121 = .ok (.if_icmp .ge 30, 3) := by decide +kernel
theorem dX8_copy_124 : decode cX8_copy 124 = .ok (.aload_n 0, 1) := by decide +kernel
theorem dX8_copy_125 : decode cX8_copy 125 = .ok (.getfield 22, 3) := by decide +kernel
theorem dX8_copy_128 : decode cX8_copy 128 = .ok (.iload 6, 2) := by decide +kernel
theorem dX8_copy_130 : decode cX8_copy 130 = .ok (.aload_n 0, 1) := by decide +kernel
theorem dX8_copy_131 : decode cX8_copy 131 = .ok (.getfield 16, 3) := by decide +kernel
theorem dX8_copy_134 : decode cX8_copy 134 = .ok (.bipush 40, 2) := by decide +kernel
theorem dX8_copy_136 : decode cX8_copy 136 = .ok (.iload_n 1, 1) := by decide +kernel
theorem dX8_copy_137 : decode cX8_copy 137 = .ok (.imul, 1) := by decide +kernel
theorem dX8_copy_138 : decode cX8_copy 138 = .ok (.iload_n 2, 1) := by decide +kernel
theorem dX8_copy_139 : decode cX8_copy 139 = .ok (.iadd, 1) := by decide +kernel
theorem dX8_copy_140 : decode cX8_copy 140 = .ok (.iload 6, 2) := by decide +kernel
theorem dX8_copy_142 : decode cX8_copy 142 = .ok (.iadd, 1) := by decide +kernel
theorem dX8_copy_143 : decode cX8_copy 143 = .ok (.iaload, 1) := by decide +kernel
theorem dX8_copy_144 : decode cX8_copy 144 = .ok (.iastore, 1) := by decide +kernel
theorem dX8_copy_145 : decode cX8_copy 145 = .ok (.iinc 6 1, 3) := by decide +kernel
theorem dX8_copy_148 : decode cX8_copy 148 = .ok (.goto (-31), 3) := by decide +kernel
theorem dX8_copy_151 : decode cX8_copy 151 = .ok (.iconst 0, 1) := by decide +kernel
theorem dX8_copy_152 : decode cX8_copy 152 = .ok (.istore 6, 2) := by decide +kernel
theorem dX8_copy_154 : decode cX8_copy 154 = .ok (.iload 6, 2) := by decide +kernel
theorem dX8_copy_156 : decode cX8_copy 156 = .ok (.iload 5, 2) := by decide +kernel
theorem dX8_copy_158 : decode cX8_copy 158 = .ok (.if_icmp .ge 31, 3) := by decide +kernel
theorem dX8_copy_161 : decode cX8_copy 161 = .ok (.aload_n 0, 1) := by decide +kernel
theorem dX8_copy_162 : decode cX8_copy 162 = .ok (.getfield 16, 3) := by decide +kernel
theorem dX8_copy_165 : decode cX8_copy 165 = .ok (.bipush 40, 2) := by decide +kernel
theorem dX8_copy_167 : decode cX8_copy 167 = .ok (.iload_n 3, 1) := by decide +kernel
theorem dX8_copy_168 : decode cX8_copy 168 = .ok (.imul, 1) := by decide +kernel
theorem dX8_copy_169 : decode cX8_copy 169 = .ok (.iload 4, 2) := by decide +kernel
theorem dX8_copy_171 : decode cX8_copy 171 = .ok (.iadd, 1) := by decide +kernel
theorem dX8_copy_172 : decode cX8_copy 172 = .ok (.iload 6, 2) := by decide +kernel
theorem dX8_copy_174 : decode cX8_copy 174 = .ok (.iadd, 1) := by decide +kernel
theorem dX8_copy_175 : decode cX8_copy 175 = .ok (.aload_n 0, 1) := by decide +kernel
theorem dX8_copy_176 : decode cX8_copy 176 = .ok (.getfield 22, 3) := by decide +kernel
theorem dX8_copy_179 : decode cX8_copy 179 = .ok (.iload 6, 2) := by decide +kernel
theorem dX8_copy_181 : decode cX8_copy 181 = .ok (.iaload, 1) := by decide +kernel
theorem dX8_copy_182 : decode cX8_copy 182 = .ok (.iastore, 1) := by decide +kernel
theorem dX8_copy_183 : decode cX8_copy 183 = .ok (.iinc 6 1, 3) := by decide +kernel
theorem dX8_copy_186 : decode cX8_copy 186 = .ok (.goto (-32), 3) := by decide +kernel
theorem dX8_copy_189 : decode cX8_copy 189 = .ok (.aload_n 0, 1) := by decide +kernel
theorem dX8_copy_190 : decode cX8_copy 190 = .ok (.iload 5, 2) := by decide +kernel
theorem dX8_copy_192 : decode cX8_copy 192 = .ok (.invokevirtual 72, 3) := by decide +kernel
theorem dX8_copy_195 : decode cX8_copy 195 = .ok (.ireturn, 1) := by decide +kernel
theorem dX8_drop_0 : decode cX8_drop 0 = .ok (.iload_n 1, 1) := by decide +kernel
theorem dX8_drop_1 : decode cX8_drop 1 = .ok (.invokestatic 61, 3) := by decide +kernel
theorem dX8_drop_4 : decode cX8_drop 4 = .ok (.ifCond .ne 6, 3) := by decide +kernel
theorem dX8_drop_7 : decode cX8_drop 7 = .ok (.ldc 67, 2) := by decide +kernel
theorem dX8_drop_9 : decode cX8_drop 9 = .ok (.ireturn, 1) := by decide +kernel
theorem dX8_drop_10 : decode cX8_drop 10 = .ok (.aload_n 0, 1) := by decide +kernel
theorem dX8_drop_11 : decode cX8_drop 11 = .ok (.getfield 13, 3) := by decide +kernel
theorem dX8_drop_14 : decode cX8_drop 14 = .ok (.iload_n 1, 1) := by decide +kernel
theorem dX8_drop_15 : decode cX8_drop 15 = .ok (.iaload, 1) := by decide +kernel
theorem dX8_drop_16 : decode cX8_drop 16 = .ok (.ifCond .ge 9, 3) := by decide +kernel
theorem dX8_drop_19 : decode cX8_drop 19 = .ok (.aload_n 0, 1) := by decide +kernel
theorem dX8_drop_20 : decode cX8_drop 20 = .ok (.iconst 1, 1) := by decide +kernel
theorem dX8_drop_21 : decode cX8_drop 21 = .ok (.invokevirtual 68, 3) := by decide +kernel
theorem dX8_drop_24 : decode cX8_drop 24 = .ok (.ireturn, 1) := by decide +kernel
theorem dX8_drop_25 : decode cX8_drop 25 = .ok (.aload_n 0, 1) := by decide +kernel
theorem dX8_drop_26 : decode cX8_drop 26 = .ok (.getfield 13, 3) := by decide +kernel
theorem dX8_drop_29 : decode cX8_drop 29 = .ok (.iload_n 1, 1) := by decide +kernel
theorem dX8_drop_30 : decode cX8_drop 30 = .ok (.iaload, 1) := by decide +kernel
theorem dX8_drop_31 : decode cX8_drop 31 = .ok (.istore_n 2, 1) := by decide +kernel
theorem dX8_drop_32 : decode cX8_drop 32 = .ok (.aload_n 0, 1) := by decide +kernel
theorem dX8_drop_33 : decode cX8_drop 33 = .ok (.getfield 13, 3) := by decide +kernel
theorem dX8_drop_36 : decode cX8_drop 36 = .ok (.iload_n 1, 1) := by decide +kernel
theorem dX8_drop_37 : decode cX8_drop 37 = .ok (.iconst (-1), 1) := by decide +kernel
theorem dX8_drop_38 : decode cX8_drop 38 = .ok (.iastore, 1) := by decide +kernel
theorem dX8_drop_39 : decode cX8_drop 39 = .ok (.aload_n 0, 1) := by decide +kernel
theorem dX8_drop_40 : decode cX8_drop 40 = .ok (.iload_n 2, 1) := by decide +kernel
theorem dX8_drop_41 : decode cX8_drop 41 = .ok (.invokevirtual 72, 3) := by decide +kernel
theorem dX8_drop_44 : decode cX8_drop 44 = .ok (.ireturn, 1) := by decide +kernel
theorem dX8_feed_0 : decode cX8_feed 0 = .ok (.iload_n 1, 1) := by decide +kernel
theorem dX8_feed_1 : decode cX8_feed 1 = .ok (.i2l, 1) := by decide +kernel
theorem dX8_feed_2 : decode cX8_feed 2 = .ok (.lconst 0, 1) := by decide +kernel
theorem dX8_feed_3 : decode cX8_feed 3 = .ok (.ldc2_w 79, 3) := by decide +kernel
theorem dX8_feed_6 : decode cX8_feed 6 = .ok (.invokestatic 57, 3) := by decide +kernel
theorem dX8_feed_9 : decode cX8_feed 9 = .ok (.ifCond .ne 6, 3) := by decide +kernel
theorem dX8_feed_12 : decode cX8_feed 12 = .ok (.ldc 67, 2) := by decide +kernel
theorem dX8_feed_14 : decode cX8_feed 14 = .ok (.ireturn, 1) := by decide +kernel
theorem dX8_feed_15 : decode cX8_feed 15 = .ok (.aload_n 0, 1) := by decide +kernel
theorem dX8_feed_16 : decode cX8_feed 16 = .ok (.getfield 81, 3) := by decide +kernel
theorem dX8_feed_19 : decode cX8_feed 19 = .ok (.bipush 100, 2) := by decide +kernel
theorem dX8_feed_21 : decode cX8_feed 21 = .ok (.if_icmp .ne 6, 3) := by decide +kernel
theorem dX8_feed_24 : decode cX8_feed 24 = .ok (.ldc 84, 2) := by decide +kernel
theorem dX8_feed_26 : decode cX8_feed 26 = .ok (.ireturn, 1) := by decide +kernel
theorem dX8_feed_27 : decode cX8_feed 27 = .ok (.aload_n 0, 1) := by decide +kernel
theorem dX8_feed_28 : decode cX8_feed 28 = .ok (.getfield 25, 3) := by decide +kernel
theorem dX8_feed_31 : decode cX8_feed 31 = .ok (.aload_n 0, 1) := by decide +kernel
theorem dX8_feed_32 : decode cX8_feed 32 = .ok (.getfield 81, 3) := by decide +kernel
theorem dX8_feed_35 : decode cX8_feed 35 = .ok (.iload_n 1, 1) := by decide +kernel
theorem dX8_feed_36 : decode cX8_feed 36 = .ok (.iastore, 1) := by decide +kernel
theorem dX8_feed_37 : decode cX8_feed 37 = .ok (.aload_n 0, 1) := by decide +kernel
theorem dX8_feed_38 : decode cX8_feed 38 = .ok (.dup, 1) := by decide +kernel
theorem dX8_feed_39 : decode cX8_feed 39 = .ok (.getfield 81, 3) := by decide +kernel
theorem dX8_feed_42 : decode cX8_feed 42 = .ok (.iconst 1, 1) := by decide +kernel
theorem dX8_feed_43 : decode cX8_feed 43 = .ok (.iadd, 1) := by decide +kernel
theorem dX8_feed_44 : decode cX8_feed 44 = .ok (.putfield 81, 3) := by decide +kernel
theorem dX8_feed_47 : decode cX8_feed 47 = .ok (.aload_n 0, 1) := by decide +kernel
theorem dX8_feed_48 : decode cX8_feed 48 = .ok (.getfield 81, 3) := by decide +kernel
theorem dX8_feed_51 : decode cX8_feed 51 = .ok (.ireturn, 1) := by decide +kernel
theorem dX8_nextToken_0 : decode cX8_nextToken 0 = .ok (.aload_n 0, 1) := by decide +kernel
theorem dX8_nextToken_1 : decode cX8_nextToken 1 = .ok (.aload_n 0, 1) := by decide +kernel
theorem dX8_nextToken_2 : decode cX8_nextToken 2 = .ok (.getfield 85, 3) := by decide +kernel
theorem dX8_nextToken_5 : decode cX8_nextToken 5 = .ok (.putfield 88, 3) := by decide +kernel
theorem dX8_nextToken_8 : decode cX8_nextToken 8 = .ok (.aload_n 0, 1) := by decide +kernel
theorem dX8_nextToken_9 : decode cX8_nextToken 9 = .ok (.aload_n 0, 1) := by decide +kernel
theorem dX8_nextToken_10 : decode cX8_nextToken 10 = .ok (.getfield 85, 3) := by decide +kernel
theorem dX8_nextToken_13 : decode cX8_nextToken 13 = .ok (.aload_n 0, 1) := by decide +kernel
theorem dX8_nextToken_14 : decode cX8_nextToken 14 = .ok (.getfield 81, 3) := by decide +kernel
theorem dX8_nextToken_17 : decode cX8_nextToken 17 = .ok (.if_icmp .ne 7, 3) := by decide +kernel
theorem dX8_nextToken_20 : decode cX8_nextToken 20 = .ok (.iconst 3, 1) := by decide +kernel
theorem dX8_nextToken_21 : decode cX8_nextToken 21 = .ok (.goto 4, 3) := by decide +kernel
theorem dX8_nextToken_24 : decode cX8_nextToken 24 = .ok (.iconst 0, 1) := by decide +kernel
theorem dX8_nextToken_25 : decode cX8_nextToken 25 = .ok (.putfield 91, 3) := by decide +kernel
theorem dX8_nextToken_28 : decode cX8_nextToken 28 = .ok (.aload_n 0, 1) := by decide +kernel
theorem dX8_nextToken_29 : decode cX8_nextToken 29 = .ok (.iconst 0, 1) := by decide +kernel
theorem dX8_nextToken_30 : decode cX8_nextToken 30 = .ok (.putfield 94, 3) := by decide +kernel
theorem dX8_nextToken_33 : decode cX8_nextToken 33 = .ok (.aload_n 0, 1) := by decide +kernel
theorem dX8_nextToken_34 : decode cX8_nextToken 34 = .ok (.getfield 85, 3) := by decide +kernel
theorem dX8_nextToken_37 : decode cX8_nextToken 37 = .ok (.aload_n 0, 1) := by decide +kernel
theorem dX8_nextToken_38 : decode cX8_nextToken 38 = .ok (.getfield 81, 3) := by decide +kernel
theorem dX8_nextToken_41 : decode cX8_nextToken 41 = .ok (.if_icmp .ge 78, 3) := by decide +kernel
theorem dX8_nextToken_44 : decode cX8_nextToken 44 = .ok (.aload_n 0, 1) := by decide +kernel
theorem dX8_nextToken_45 : decode cX8_nextToken 45 = .ok (.getfield 25, 3) := by decide +kernel
theorem dX8_nextToken_48 : decode cX8_nextToken 48 = .ok (.aload_n 0, 1) := by decide +kernel
theorem dX8_nextToken_49 : decode cX8_nextToken 49 = .ok (.getfield 85, 3) := by decide +kernel
theorem dX8_nextToken_52 : decode cX8_nextToken 52 = .ok (.iaload, 1) := by decide +kernel
theorem dX8_nextToken_53 : decode cX8_nextToken 53 = .ok (.i2l, 1) := by decide +kernel
theorem dX8_nextToken_54 : decode cX8_nextToken 54 = .ok (.ldc2_w 97, 3) := by decide +kernel
theorem dX8_nextToken_57 : decode cX8_nextToken 57 = .ok (.ldc2_w 99, 3) := by decide +kernel
theorem dX8_nextToken_60 : decode cX8_nextToken 60 = .ok (.invokestatic 57, 3) := by decide +kernel
theorem dX8_nextToken_63 : decode cX8_nextToken 63 = .ok (.ifCond .eq 56, 3) := by decide +kernel
theorem dX8_nextToken_66 : decode cX8_nextToken 66 = .ok (.aload_n 0, 1) := by decide +kernel
theorem dX8_nextToken_67 : decode cX8_nextToken 67 = .ok (.aload_n 0, 1) := by decide +kernel
theorem dX8_nextToken_68 : decode cX8_nextToken 68 = .ok (.getfield 94, 3) := by decide +kernel
theorem dX8_nextToken_71 : decode cX8_nextToken 71 = .ok (.bipush 99, 2) := by decide +kernel
theorem dX8_nextToken_73 : decode cX8_nextToken 73 = .ok (.if_icmp .le 10, 3) := by decide +kernel
theorem dX8_nextToken_76 : decode cX8_nextToken 76 = .ok (.aload_n 0, 1) := by decide +kernel
theorem dX8_nextToken_77 : decode cX8_nextToken 77 = .ok (.getfield 94, 3) := by decide +kernel
theorem dX8_nextToken_80 : decode cX8_nextToken 80 = .ok (.goto 23, 3) := by decide +kernel
theorem dX8_nextToken_83 : decode cX8_nextToken 83 = .ok (.bipush 10, 2) := by decide +kernel
theorem dX8_nextToken_85 : decode cX8_nextToken 85 = .ok (.aload_n 0, 1) := by decide +kernel
theorem dX8_nextToken_86 : decode cX8_nextToken 86 = .ok (.getfield 94, 3) := by decide +kernel
theorem dX8_nextToken_89 : decode cX8_nextToken 89 = .ok (.imul, 1) := by decide +kernel
theorem dX8_nextToken_90 : decode cX8_nextToken 90 = .ok (.aload_n 0, 1) := by decide +kernel
theorem dX8_nextToken_91 : decode cX8_nextToken 91 = .ok (.getfield 25, 3) := by decide +kernel
theorem dX8_nextToken_94 : decode cX8_nextToken 94 = .ok (.aload_n 0, 1) := by decide +kernel
theorem dX8_nextToken_95 : decode cX8_nextToken 95 = .ok (.getfield 85, 3) := by decide +kernel
theorem dX8_nextToken_98 : decode cX8_nextToken 98 = .ok (.iaload, 1) := by decide +kernel
theorem dX8_nextToken_99 : decode cX8_nextToken 99 = .ok (.iadd, 1) := by decide +kernel
theorem dX8_nextToken_100 : decode cX8_nextToken 100 = .ok (.bipush 48, 2) := by decide +kernel
theorem dX8_nextToken_102 : decode cX8_nextToken 102 = .ok (.isub, 1) := by decide +kernel
theorem dX8_nextToken_103 : decode cX8_nextToken 103 = .ok (.putfield 94, 3) := by decide +kernel
theorem dX8_nextToken_106 : decode cX8_nextToken 106 = .ok (.aload_n 0, 1) := by decide +kernel
theorem dX8_nextToken_107 : decode cX8_nextToken 107 = .ok (.dup, 1) := by decide +kernel
theorem dX8_nextToken_108 : decode cX8_nextToken 108 = .ok (.getfield 85, 3) := by decide +kernel
theorem dX8_nextToken_111 : decode cX8_nextToken 111 = .ok (.iconst 1, 1) := by decide +kernel
theorem dX8_nextToken_112 : decode cX8_nextToken 112 = .ok (.iadd, 1) := by decide +kernel
theorem dX8_nextToken_113 : decode cX8_nextToken 113 = .ok (.putfield 85, 3) := by decide +kernel
theorem dX8_nextToken_116 : decode cX8_nextToken 116 = .ok (.goto (-83), 3) := by decide +kernel
theorem dX8_nextToken_119 : decode cX8_nextToken 119 = .ok (.aload_n 0, 1) := by decide +kernel
theorem dX8_nextToken_120 : decode cX8_nextToken 120 = .ok (.getfield 85, 3) := by decide +kernel
theorem dX8_nextToken_123 : decode cX8_nextToken 123 = .ok (.aload_n 0, 1) := by decide +kernel
theorem dX8_nextToken_124 : decode cX8_nextToken 124 = .ok (.getfield 88, 3) := by decide +kernel
theorem dX8_nextToken_127 : decode cX8_nextToken 127 = .ok (.if_icmp .le 28, 3) := by decide +kernel
theorem dX8_nextToken_130 : decode cX8_nextToken 130 = .ok (.aload_n 0, 1) := by decide +kernel
theorem dX8_nextToken_131 : decode cX8_nextToken 131 = .ok (.aload_n 0, 1) := by decide +kernel
theorem dX8_nextToken_132 : decode cX8_nextToken 132 = .ok (.getfield 85, 3) := by decide +kernel
theorem dX8_nextToken_135 : decode cX8_nextToken 135 = .ok (.aload_n 0, 1) := by decide +kernel
theorem dX8_nextToken_136 : decode cX8_nextToken 136 = .ok (.getfield 88, 3) := by decide +kernel
theorem dX8_nextToken_139 : decode cX8_nextToken 139 = .ok (.isub, 1) := by decide +kernel
theorem dX8_nextToken_140 : decode cX8_nextToken 140 = .ok (.iconst 2, 1) := by decide +kernel
theorem dX8_nextToken_141 : decode cX8_nextToken 141 = .ok (.if_icmp .le 7, 3) := by decide +kernel
theorem dX8_nextToken_144 : decode cX8_nextToken 144 = .ok (.iconst 0, 1) := by decide +kernel
theorem dX8_nextToken_145 : decode cX8_nextToken 145 = .ok (.goto 4, 3) := by decide +kernel
theorem dX8_nextToken_148 : decode cX8_nextToken 148 = .ok (.iconst 2, 1) := by decide +kernel
theorem dX8_nextToken_149 : decode cX8_nextToken 149 = .ok (.putfield 91, 3) := by decide +kernel
theorem dX8_nextToken_152 : decode cX8_nextToken 152 = .ok (.goto 77, 3) := by decide +kernel
theorem dX8_nextToken_155 : decode cX8_nextToken 155 = .ok (.aload_n 0, 1) := by decide +kernel
theorem dX8_nextToken_156 : decode cX8_nextToken 156 = .ok (.getfield 91, 3) := by decide +kernel
theorem dX8_nextToken_159 : decode cX8_nextToken 159 = .ok (.ifCond .ne 70, 3) := by decide +kernel
theorem dX8_nextToken_162 : decode cX8_nextToken 162 = .ok (.aload_n 0, 1) := by decide +kernel
theorem dX8_nextToken_163 : decode cX8_nextToken 163 = .ok (.aload_n 0, 1) := by decide +kernel
theorem dX8_nextToken_164 : decode cX8_nextToken 164 = .ok (.getfield 25, 3) := by decide +kernel
theorem dX8_nextToken_167 : decode cX8_nextToken 167 = .ok (.aload_n 0, 1) := by decide +kernel
theorem dX8_nextToken_168 : decode cX8_nextToken 168 = .ok (.getfield 85, 3) := by decide +kernel
theorem dX8_nextToken_171 : decode cX8_nextToken 171 = .ok (.iaload, 1) := by decide +kernel
theorem dX8_nextToken_172 : decode cX8_nextToken 172 = .ok (.putfield 94, 3) := by decide +kernel
theorem dX8_nextToken_175 : decode cX8_nextToken 175 = .ok (.aload_n 0, 1) := by decide +kernel
theorem dX8_nextToken_176 : decode cX8_nextToken 176 = .ok (.aload_n 0, 1) := by decide +kernel
theorem dX8_nextToken_177 : decode cX8_nextToken 177 = .ok (.getfield 94, 3) := by decide +kernel
theorem dX8_nextToken_180 : decode cX8_nextToken 180 = .ok (.i2l, 1) := by decide +kernel
theorem dX8_nextToken_181 : decode cX8_nextToken 181 = .ok (.ldc2_w 101, 3) := by decide +kernel
theorem dX8_nextToken_184 : decode cX8_nextToken 184 = .ok (.ldc2_w 103, 3) := by decide +kernel
theorem dX8_nextToken_187 : decode cX8_nextToken 187 = .ok (.invokestatic 57, 3) := by decide +kernel
theorem dX8_nextToken_190 : decode cX8_nextToken 190 = .ok (.ifCond .ne 21, 3) := by decide +kernel
theorem dX8_nextToken_193 : decode cX8_nextToken 193 = .ok (.aload_n 0, 1) := by decide +kernel
theorem dX8_nextToken_194 : decode cX8_nextToken 194 = .ok (.getfield 94, 3) := by decide +kernel
theorem dX8_nextToken_197 : decode cX8_nextToken 197 = .ok (.bipush 44, 2) := by decide +kernel
theorem dX8_nextToken_199 : decode cX8_nextToken 199 = .ok (.if_icmp .eq 12, 3) := by decide +kernel
theorem dX8_nextToken_202 : decode cX8_nextToken 202 = .ok (.aload_n 0, 1) := by decide +kernel
theorem dX8_nextToken_203 : decode cX8_nextToken 203 = .ok (.getfield 94, 3) := by decide +kernel
theorem dX8_nextToken_206 : decode cX8_nextToken 206 = .ok (.bipush 59, 2) := by decide +kernel
theorem dX8_nextToken_208 : decode cX8_nextToken 208 = .ok (.if_icmp .ne 7, 3) := by decide +kernel
theorem dX8_nextToken_211 : decode cX8_nextToken 211 = .ok (.iconst 1, 1) := by decide +kernel
theorem dX8_nextToken_212 : decode cX8_nextToken 212 = .ok (.goto 4, 3) := by decide +kernel
theorem dX8_nextToken_215 : decode cX8_nextToken 215 = .ok (.iconst 0, 1) := by decide +kernel
theorem dX8_nextToken_216 : decode cX8_nextToken 216 = .ok (.putfield 91, 3) := by decide +kernel
theorem dX8_nextToken_219 : decode cX8_nextToken 219 = .ok (.aload_n 0, 1) := by decide +kernel
theorem dX8_nextToken_220 : decode cX8_nextToken 220 = .ok (.dup, 1) := by decide +kernel
theorem dX8_nextToken_221 : decode cX8_nextToken 221 = .ok (.getfield 85, 3) := by decide +kernel
theorem dX8_nextToken_224 : decode cX8_nextToken 224 = .ok (.iconst 1, 1) := by decide +kernel
theorem dX8_nextToken_225 : decode cX8_nextToken 225 = .ok (.iadd, 1) := by decide +kernel
theorem dX8_nextToken_226 : decode cX8_nextToken 226 = .ok (.putfield 85, 3) := by decide +kernel
theorem dX8_nextToken_229 : decode cX8_nextToken 229 = .ok (.return_, 1) := by decide +kernel
theorem dX8_faults_0 : decode cX8_faults 0 = .ok (.aload_n 0, 1) := by decide +kernel
theorem dX8_faults_1 : decode cX8_faults 1 = .ok (.iload_n 1, 1) := by decide +kernel
theorem dX8_faults_2 : decode cX8_faults 2 = .ok (.putfield 105, 3) := by decide +kernel
theorem dX8_faults_5 : decode cX8_faults 5 = .ok (.iconst 0, 1) := by decide +kernel
theorem dX8_faults_6 : decode cX8_faults 6 = .ok (.ireturn, 1) := by decide +kernel
theorem dX8_takes_0 : decode cX8_takes 0 = .ok (.aload_n 0, 1) := by decide +kernel
theorem dX8_takes_1 : decode cX8_takes 1 = .ok (.getfield 91, 3) := by decide +kernel
theorem dX8_takes_4 : decode cX8_takes 4 = .ok (.iconst 1, 1) := by decide +kernel
theorem dX8_takes_5 : decode cX8_takes 5 = .ok (.if_icmp .ne 11, 3) := by decide +kernel
theorem dX8_takes_8 : decode cX8_takes 8 = .ok (.aload_n 0, 1) := by decide +kernel
theorem dX8_takes_9 : decode cX8_takes 9 = .ok (.getfield 94, 3) := by decide +kernel
theorem dX8_takes_12 : decode cX8_takes 12 = .ok (.iload_n 1, 1) := by decide +kernel
theorem dX8_takes_13 : decode cX8_takes 13 = .ok (.if_icmp .eq 9, 3) := by decide +kernel
theorem dX8_takes_16 : decode cX8_takes 16 = .ok (.aload_n 0, 1) := by decide +kernel
theorem dX8_takes_17 : decode cX8_takes 17 = .ok (.iconst 1, 1) := by decide +kernel
theorem dX8_takes_18 : decode cX8_takes 18 = .ok (.invokevirtual 108, 3) := by decide +kernel
theorem dX8_takes_21 : decode cX8_takes 21 = .ok (.ireturn, 1) := by decide +kernel
theorem dX8_takes_22 : decode cX8_takes 22 = .ok (.aload_n 0, 1) := by decide +kernel
theorem dX8_takes_23 : decode cX8_takes 23 = .ok (.invokevirtual 111, 3) := by decide +kernel
theorem dX8_takes_26 : decode cX8_takes 26 = .ok (.iconst 1, 1) := by decide +kernel
theorem dX8_takes_27 : decode cX8_takes 27 = .ok (.ireturn, 1) := by decide +kernel
theorem dX8_takesNumber_0 : decode cX8_takesNumber 0 = .ok (.aload_n 0, 1) := by decide +kernel
theorem dX8_takesNumber_1 : decode cX8_takesNumber 1 = .ok (.getfield 91, 3) := by decide +kernel
theorem dX8_takesNumber_4 : decode cX8_takesNumber 4 = .ok (.iconst 2, 1) := by decide +kernel
theorem dX8_takesNumber_5 : decode cX8_takesNumber 5 = .ok (.if_icmp .ne 18, 3) := by decide +kernel
theorem dX8_takesNumber_8 : decode cX8_takesNumber 8 = .ok (.aload_n 0, 1) := by decide +kernel
theorem dX8_takesNumber_9 : decode cX8_takesNumber 9 = .ok (.getfield 94, 3) := by decide +kernel
theorem dX8_takesNumber_12 : decode cX8_takesNumber 12 = .ok (.i2l, 1) := by decide +kernel
theorem dX8_takesNumber_13 : decode cX8_takesNumber 13 = .ok (.iload_n 1, 1) := by decide +kernel
theorem dX8_takesNumber_14 : decode cX8_takesNumber 14 = .ok (.i2l, 1) := by decide +kernel
theorem dX8_takesNumber_15 : decode cX8_takesNumber 15 = .ok (.iload_n 2, 1) := by decide +kernel
theorem dX8_takesNumber_16 : decode cX8_takesNumber 16 = .ok (.i2l, 1) := by decide +kernel
theorem dX8_takesNumber_17 : decode cX8_takesNumber 17 = .ok (.invokestatic 57, 3) := by decide +kernel
theorem dX8_takesNumber_20 : decode cX8_takesNumber 20 = .ok (.ifCond .ne 21, 3) := by decide +kernel
theorem dX8_takesNumber_23 : decode cX8_takesNumber 23 = .ok (.aload_n 0, 1) := by decide +kernel
theorem dX8_takesNumber_24 : decode cX8_takesNumber 24 = .ok (.aload_n 0, 1) := by decide +kernel
theorem dX8_takesNumber_25 : decode cX8_takesNumber 25 = .ok (.getfield 91, 3) := by decide +kernel
theorem dX8_takesNumber_28 : decode cX8_takesNumber 28 = .ok (.iconst 2, 1) := by decide +kernel
theorem dX8_takesNumber_29 : decode cX8_takesNumber 29 = .ok (.if_icmp .ne 7, 3) := by decide +kernel
theorem dX8_takesNumber_32 : decode cX8_takesNumber 32 = .ok (.iconst 2, 1) := by decide +kernel
theorem dX8_takesNumber_33 : decode cX8_takesNumber 33 = .ok (.goto 4, 3) := by decide +kernel
theorem dX8_takesNumber_36 : decode cX8_takesNumber 36 = .ok (.iconst 1, 1) := by decide +kernel
theorem dX8_takesNumber_37 : decode cX8_takesNumber 37 = .ok (.invokevirtual 108, 3) := by decide +kernel
theorem dX8_takesNumber_40 : decode cX8_takesNumber 40 = .ok (.ireturn, 1) := by decide +kernel
theorem dX8_takesNumber_41 : decode cX8_takesNumber 41 = .ok (.aload_n 0, 1) := by decide +kernel
theorem dX8_takesNumber_42 : decode cX8_takesNumber 42 = .ok (.getfield 28, 3) := by decide +kernel
theorem dX8_takesNumber_45 : decode cX8_takesNumber 45 = .ok (.iload_n 3, 1) := by decide +kernel
theorem dX8_takesNumber_46 : decode cX8_takesNumber 46 = .ok (.aload_n 0, 1) := by decide +kernel
theorem dX8_takesNumber_47 : decode cX8_takesNumber 47 = .ok (.getfield 94, 3) := by decide +kernel
theorem dX8_takesNumber_50 : decode cX8_takesNumber 50 = .ok (.iastore, 1) := by decide +kernel
theorem dX8_takesNumber_51 : decode cX8_takesNumber 51 = .ok (.aload_n 0, 1) := by decide +kernel
theorem dX8_takesNumber_52 : decode cX8_takesNumber 52 = .ok (.invokevirtual 111, 3) := by decide +kernel
theorem dX8_takesNumber_55 : decode cX8_takesNumber 55 = .ok (.aload_n 0, 1) := by decide +kernel
theorem dX8_takesNumber_56 : decode cX8_takesNumber 56 = .ok (.iload 4, 2) := by decide +kernel
theorem dX8_takesNumber_58 : decode cX8_takesNumber 58 = .ok (.invokevirtual 114, 3) := by decide +kernel
theorem dX8_takesNumber_61 : decode cX8_takesNumber 61 = .ok (.ireturn, 1) := by decide +kernel
theorem dX8_kindBy_0 : decode cX8_kindBy 0 = .ok (.iload_n 0, 1) := by decide +kernel
theorem dX8_kindBy_1 : decode cX8_kindBy 1 = .ok (.bipush 119, 2) := by decide +kernel
theorem dX8_kindBy_3 : decode cX8_kindBy 3 = .ok (.if_icmp .ne 7, 3) := by decide +kernel
theorem dX8_kindBy_6 : decode cX8_kindBy 6 = .ok (.iconst 1, 1) := by decide +kernel
theorem dX8_kindBy_7 : decode cX8_kindBy 7 = .ok (.goto 44, 3) := by decide +kernel
theorem dX8_kindBy_10 : decode cX8_kindBy 10 = .ok (.iload_n 0, 1) := by decide +kernel
theorem dX8_kindBy_11 : decode cX8_kindBy 11 = .ok (.bipush 99, 2) := by decide +kernel
theorem dX8_kindBy_13 : decode cX8_kindBy 13 = .ok (.if_icmp .ne 7, 3) := by decide +kernel
theorem dX8_kindBy_16 : decode cX8_kindBy 16 = .ok (.iconst 2, 1) := by decide +kernel
theorem dX8_kindBy_17 : decode cX8_kindBy 17 = .ok (.goto 34, 3) := by decide +kernel
theorem dX8_kindBy_20 : decode cX8_kindBy 20 = .ok (.iload_n 0, 1) := by decide +kernel
theorem dX8_kindBy_21 : decode cX8_kindBy 21 = .ok (.bipush 115, 2) := by decide +kernel
theorem dX8_kindBy_23 : decode cX8_kindBy 23 = .ok (.if_icmp .ne 7, 3) := by decide +kernel
theorem dX8_kindBy_26 : decode cX8_kindBy 26 = .ok (.iconst 3, 1) := by decide +kernel
theorem dX8_kindBy_27 : decode cX8_kindBy 27 = .ok (.goto 24, 3) := by decide +kernel
theorem dX8_kindBy_30 : decode cX8_kindBy 30 = .ok (.iload_n 0, 1) := by decide +kernel
theorem dX8_kindBy_31 : decode cX8_kindBy 31 = .ok (.bipush 112, 2) := by decide +kernel
theorem dX8_kindBy_33 : decode cX8_kindBy 33 = .ok (.if_icmp .ne 7, 3) := by decide +kernel
theorem dX8_kindBy_36 : decode cX8_kindBy 36 = .ok (.iconst 4, 1) := by decide +kernel
theorem dX8_kindBy_37 : decode cX8_kindBy 37 = .ok (.goto 14, 3) := by decide +kernel
theorem dX8_kindBy_40 : decode cX8_kindBy 40 = .ok (.iload_n 0, 1) := by decide +kernel
theorem dX8_kindBy_41 : decode cX8_kindBy 41 = .ok (.bipush 107, 2) := by decide +kernel
theorem dX8_kindBy_43 : decode cX8_kindBy 43 = .ok (.if_icmp .ne 7, 3) := by decide +kernel
theorem dX8_kindBy_46 : decode cX8_kindBy 46 = .ok (.iconst 5, 1) := by decide +kernel
theorem dX8_kindBy_47 : decode cX8_kindBy 47 = .ok (.goto 4, 3) := by decide +kernel
theorem dX8_kindBy_50 : decode cX8_kindBy 50 = .ok (.iconst 0, 1) := by decide +kernel
theorem dX8_kindBy_51 : decode cX8_kindBy 51 = .ok (.ireturn, 1) := by decide +kernel
theorem dX8_readHouse_0 : decode cX8_readHouse 0 = .ok (.aload_n 0, 1) := by decide +kernel
theorem dX8_readHouse_1 : decode cX8_readHouse 1 = .ok (.getfield 28, 3) := by decide +kernel
theorem dX8_readHouse_4 : decode cX8_readHouse 4 = .ok (.iconst 0, 1) := by decide +kernel
theorem dX8_readHouse_5 : decode cX8_readHouse 5 = .ok (.iaload, 1) := by decide +kernel
theorem dX8_readHouse_6 : decode cX8_readHouse 6 = .ok (.istore_n 1, 1) := by decide +kernel
theorem dX8_readHouse_7 : decode cX8_readHouse 7 = .ok (.aload_n 0, 1) := by decide +kernel
theorem dX8_readHouse_8 : decode cX8_readHouse 8 = .ok (.getfield 91, 3) := by decide +kernel
theorem dX8_readHouse_11 : decode cX8_readHouse 11 = .ok (.iconst 1, 1) := by decide +kernel
theorem dX8_readHouse_12 : decode cX8_readHouse 12 = .ok (.if_icmp .ne 13, 3) := by decide +kernel
theorem dX8_readHouse_15 : decode cX8_readHouse 15 = .ok (.aload_n 0, 1) := by decide +kernel
theorem dX8_readHouse_16 : decode cX8_readHouse 16 = .ok (.getfield 94, 3) := by decide +kernel
theorem dX8_readHouse_19 : decode cX8_readHouse 19 = .ok (.invokestatic 117, 3) := by decide +kernel
theorem dX8_readHouse_22 : decode cX8_readHouse 22 = .ok (.goto 4, 3) := by decide +kernel
theorem dX8_readHouse_25 : decode cX8_readHouse 25 = .ok (.iconst 0, 1) := by decide +kernel
theorem dX8_readHouse_26 : decode cX8_readHouse 26 = .ok (.istore_n 2, 1) := by decide +kernel
theorem dX8_readHouse_27 : decode cX8_readHouse 27 = .ok (.iload_n 2, 1) := by decide +kernel
theorem dX8_readHouse_28 : decode cX8_readHouse 28 = .ok (.ifCond .eq 9, 3) := by decide +kernel
theorem dX8_readHouse_31 : decode cX8_readHouse 31 = .ok (.iload_n 1, 1) := by decide +kernel
theorem dX8_readHouse_32 : decode cX8_readHouse 32 = .ok (.bipush 8, 2) := by decide +kernel
theorem dX8_readHouse_34 : decode cX8_readHouse 34 = .ok (.if_icmp .ne 17, 3) := by decide +kernel
theorem dX8_readHouse_37 : decode cX8_readHouse 37 = .ok (.aload_n 0, 1) := by decide +kernel
theorem dX8_readHouse_38 : decode cX8_readHouse 38 = .ok (.iload_n 2, 1) := by decide +kernel
theorem dX8_readHouse_39 : decode cX8_readHouse 39 = .ok (.ifCond .ne 7, 3) := by decide +kernel
theorem dX8_readHouse_42 : decode cX8_readHouse 42 = .ok (.iconst 1, 1) := by decide +kernel
theorem dX8_readHouse_43 : decode cX8_readHouse 43 = .ok (.goto 4, 3) := by decide +kernel
theorem dX8_readHouse_46 : decode cX8_readHouse 46 = .ok (.iconst 3, 1) := by decide +kernel
theorem dX8_readHouse_47 : decode cX8_readHouse 47 = .ok (.invokevirtual 108, 3) := by decide +kernel
theorem dX8_readHouse_50 : decode cX8_readHouse 50 = .ok (.ireturn, 1) := by decide +kernel
theorem dX8_readHouse_51 : decode cX8_readHouse 51 = .ok (.aload_n 0, 1) := by decide +kernel
theorem dX8_readHouse_52 : decode cX8_readHouse 52 = .ok (.invokevirtual 111, 3) := by decide +kernel
theorem dX8_readHouse_55 : decode cX8_readHouse 55 = .ok (.aload_n 0, 1) := by decide +kernel
theorem dX8_readHouse_56 : decode cX8_readHouse 56 = .ok (.getfield 28, 3) := by decide +kernel
theorem dX8_readHouse_59 : decode cX8_readHouse 59 = .ok (.iconst 5, 1) := by decide +kernel
theorem dX8_readHouse_60 : decode cX8_readHouse 60 = .ok (.iload_n 1, 1) := by decide +kernel
theorem dX8_readHouse_61 : decode cX8_readHouse 61 = .ok (.iadd, 1) := by decide +kernel
theorem dX8_readHouse_62 : decode cX8_readHouse 62 = .ok (.iload_n 2, 1) := by decide +kernel
theorem dX8_readHouse_63 : decode cX8_readHouse 63 = .ok (.iastore, 1) := by decide +kernel
theorem dX8_readHouse_64 : decode cX8_readHouse 64 = .ok (.aload_n 0, 1) := by decide +kernel
theorem dX8_readHouse_65 : decode cX8_readHouse 65 = .ok (.getfield 28, 3) := by decide +kernel
theorem dX8_readHouse_68 : decode cX8_readHouse 68 = .ok (.iconst 0, 1) := by decide +kernel
theorem dX8_readHouse_69 : decode cX8_readHouse 69 = .ok (.dup2, 1) := by decide +kernel
theorem dX8_readHouse_70 : decode cX8_readHouse 70 = .ok (.iaload, 1) := by decide +kernel
theorem dX8_readHouse_71 : decode cX8_readHouse 71 = .ok (.iconst 1, 1) := by decide +kernel
theorem dX8_readHouse_72 : decode cX8_readHouse 72 = .ok (.iadd, 1) := by decide +kernel
theorem dX8_readHouse_73 : decode cX8_readHouse 73 = .ok (.iastore, 1) := by decide +kernel
theorem dX8_readHouse_74 : decode cX8_readHouse 74 = .ok (.aload_n 0, 1) := by decide +kernel
theorem dX8_readHouse_75 : decode cX8_readHouse 75 = .ok (.iconst 0, 1) := by decide +kernel
theorem dX8_readHouse_76 : decode cX8_readHouse 76 = .ok (.bipush 99, 2) := by decide +kernel
theorem dX8_readHouse_78 : decode cX8_readHouse 78 = .ok (.bipush 21, 2) := by decide +kernel
theorem dX8_readHouse_80 : decode cX8_readHouse 80 = .ok (.iload_n 1, 1) := by decide +kernel
theorem dX8_readHouse_81 : decode cX8_readHouse 81 = .ok (.iadd, 1) := by decide +kernel
theorem dX8_readHouse_82 : decode cX8_readHouse 82 = .ok (.bipush 44, 2) := by decide +kernel
theorem dX8_readHouse_84 : decode cX8_readHouse 84 = .ok (.invokevirtual 120, 3) := by decide +kernel
theorem dX8_readHouse_87 : decode cX8_readHouse 87 = .ok (.ifCond .eq 23, 3) := by decide +kernel
theorem dX8_readHouse_90 : decode cX8_readHouse 90 = .ok (.aload_n 0, 1) := by decide +kernel
theorem dX8_readHouse_91 : decode cX8_readHouse 91 = .ok (.iconst 1, 1) := by decide +kernel
theorem dX8_readHouse_92 : decode cX8_readHouse 92 = .ok (.bipush 9, 2) := by decide +kernel
theorem dX8_readHouse_94 : decode cX8_readHouse 94 = .ok (.bipush 13, 2) := by decide +kernel
theorem dX8_readHouse_96 : decode cX8_readHouse 96 = .ok (.iload_n 1, 1) := by decide +kernel
theorem dX8_readHouse_97 : decode cX8_readHouse 97 = .ok (.iadd, 1) := by decide +kernel
theorem dX8_readHouse_98 : decode cX8_readHouse 98 = .ok (.bipush 59, 2) := by decide +kernel
theorem dX8_readHouse_100 : decode cX8_readHouse 100 = .ok (.invokevirtual 120, 3) := by decide +kernel
theorem dX8_readHouse_103 : decode cX8_readHouse 103 = .ok (.ifCond .eq 7, 3) := by decide +kernel
theorem dX8_readHouse_106 : decode cX8_readHouse 106 = .ok (.iconst 1, 1) := by decide +kernel
theorem dX8_readHouse_107 : decode cX8_readHouse 107 = .ok (.goto 4, 3) := by decide +kernel
theorem dX8_readHouse_110 : decode cX8_readHouse 110 = .ok (.iconst 0, 1) := by decide +kernel
theorem dX8_readHouse_111 : decode cX8_readHouse 111 = .ok (.ireturn, 1) := by decide +kernel
theorem dX8_readStreet_0 : decode cX8_readStreet 0 = .ok (.aload_n 0, 1) := by decide +kernel
theorem dX8_readStreet_1 : decode cX8_readStreet 1 = .ok (.iconst 0, 1) := by decide +kernel
theorem dX8_readStreet_2 : decode cX8_readStreet 2 = .ok (.putfield 85, 3) := by decide +kernel
theorem dX8_readStreet_5 : decode cX8_readStreet 5 = .ok (.iconst 0, 1) := by decide +kernel
theorem dX8_readStreet_6 : decode cX8_readStreet 6 = .ok (.istore_n 1, 1) := by decide +kernel
theorem dX8_readStreet_7 : decode cX8_readStreet 7 = .ok (.iload_n 1, 1) := by decide +kernel
theorem dX8_readStreet_8 : decode cX8_readStreet 8 = .ok (.bipush 29, 2) := by decide +kernel
theorem dX8_readStreet_10 : decode cX8_readStreet 10 = .ok (.if_icmp .ge 16, 3) := by decide +kernel
theorem dX8_readStreet_13 : decode cX8_readStreet 13 = .ok (.aload_n 0, 1) := by decide +kernel
theorem dX8_readStreet_14 : decode cX8_readStreet 14 = .ok (.getfield 28, 3) := by decide +kernel
theorem dX8_readStreet_17 : decode cX8_readStreet 17 = .ok (.iload_n 1, 1) := by decide +kernel
theorem dX8_readStreet_18 : decode cX8_readStreet 18 = .ok (.iconst 0, 1) := by decide +kernel
theorem dX8_readStreet_19 : decode cX8_readStreet 19 = .ok (.iastore, 1) := by decide +kernel
theorem dX8_readStreet_20 : decode cX8_readStreet 20 = .ok (.iinc 1 1, 3) := by decide +kernel
theorem dX8_readStreet_23 : decode cX8_readStreet 23 = .ok (.goto (-16), 3) := by decide +kernel
theorem dX8_readStreet_26 : decode cX8_readStreet 26 = .ok (.aload_n 0, 1) := by decide +kernel
theorem dX8_readStreet_27 : decode cX8_readStreet 27 = .ok (.invokevirtual 111, 3) := by decide +kernel
theorem dX8_readStreet_30 : decode cX8_readStreet 30 = .ok (.aload_n 0, 1) := by decide +kernel
theorem dX8_readStreet_31 : decode cX8_readStreet 31 = .ok (.bipush 116, 2) := by decide +kernel
theorem dX8_readStreet_33 : decode cX8_readStreet 33 = .ok (.invokevirtual 114, 3) := by decide +kernel
theorem dX8_readStreet_36 : decode cX8_readStreet 36 = .ok (.ifCond .eq 29, 3) := by decide +kernel
theorem dX8_readStreet_39 : decode cX8_readStreet 39 = .ok (.aload_n 0, 1) := by decide +kernel
theorem dX8_readStreet_40 : decode cX8_readStreet 40 = .ok (.iconst 1, 1) := by decide +kernel
theorem dX8_readStreet_41 : decode cX8_readStreet 41 = .ok (.bipush 30, 2) := by decide +kernel
theorem dX8_readStreet_43 : decode cX8_readStreet 43 = .ok (.iconst 1, 1) := by decide +kernel
theorem dX8_readStreet_44 : decode cX8_readStreet 44 = .ok (.bipush 44, 2) := by decide +kernel
theorem dX8_readStreet_46 : decode cX8_readStreet 46 = .ok (.invokevirtual 120, 3) := by decide +kernel
theorem dX8_readStreet_49 : decode cX8_readStreet 49 = .ok (.ifCond .eq 16, 3) := by decide +kernel
theorem dX8_readStreet_52 : decode cX8_readStreet 52 = .ok (.aload_n 0, 1) := by decide +kernel
theorem dX8_readStreet_53 : decode cX8_readStreet 53 = .ok (.iconst 0, 1) := by decide +kernel
theorem dX8_readStreet_54 : decode cX8_readStreet 54 = .ok (.bipush 40, 2) := by decide +kernel
theorem dX8_readStreet_56 : decode cX8_readStreet 56 = .ok (.iconst 2, 1) := by decide +kernel
theorem dX8_readStreet_57 : decode cX8_readStreet 57 = .ok (.bipush 59, 2) := by decide +kernel
theorem dX8_readStreet_59 : decode cX8_readStreet 59 = .ok (.invokevirtual 120, 3) := by decide +kernel
theorem dX8_readStreet_62 : decode cX8_readStreet 62 = .ok (.ifCond .ne 5, 3) := by decide +kernel
theorem dX8_readStreet_65 : decode cX8_readStreet 65 = .ok (.iconst 0, 1) := by decide +kernel
theorem dX8_readStreet_66 : decode cX8_readStreet 66 = .ok (.ireturn, 1) := by decide +kernel
theorem dX8_readStreet_67 : decode cX8_readStreet 67 = .ok (.iconst 1, 1) := by decide +kernel
theorem dX8_readStreet_68 : decode cX8_readStreet 68 = .ok (.istore_n 1, 1) := by decide +kernel
theorem dX8_readStreet_69 : decode cX8_readStreet 69 = .ok (.iload_n 1, 1) := by decide +kernel
theorem dX8_readStreet_70 : decode cX8_readStreet 70 = .ok (.ifCond .eq 28, 3) := by decide +kernel
theorem dX8_readStreet_73 : decode cX8_readStreet 73 = .ok (.aload_n 0, 1) := by decide +kernel
theorem dX8_readStreet_74 : decode cX8_readStreet 74 = .ok (.getfield 91, 3) := by decide +kernel
theorem dX8_readStreet_77 : decode cX8_readStreet 77 = .ok (.iconst 3, 1) := by decide +kernel
theorem dX8_readStreet_78 : decode cX8_readStreet 78 = .ok (.if_icmp .ne 12, 3) := by decide +kernel
theorem dX8_readStreet_81 : decode cX8_readStreet 81 = .ok (.aload_n 0, 1) := by decide +kernel
theorem dX8_readStreet_82 : decode cX8_readStreet 82 = .ok (.getfield 28, 3) := by decide +kernel
theorem dX8_readStreet_85 : decode cX8_readStreet 85 = .ok (.iconst 0, 1) := by decide +kernel
theorem dX8_readStreet_86 : decode cX8_readStreet 86 = .ok (.iaload, 1) := by decide +kernel
theorem dX8_readStreet_87 : decode cX8_readStreet 87 = .ok (.ifCond .ne 11, 3) := by decide +kernel
theorem dX8_readStreet_90 : decode cX8_readStreet 90 = .ok (.aload_n 0, 1) := by decide +kernel
theorem dX8_readStreet_91 : decode cX8_readStreet 91 = .ok (.invokevirtual 124, 3) := by decide +kernel
theorem dX8_readStreet_94 : decode cX8_readStreet 94 = .ok (.istore_n 1, 1) := by decide +kernel
theorem dX8_readStreet_95 : decode cX8_readStreet 95 = .ok (.goto (-26), 3) := by decide +kernel
theorem dX8_readStreet_98 : decode cX8_readStreet 98 = .ok (.iload_n 1, 1) := by decide +kernel
theorem dX8_readStreet_99 : decode cX8_readStreet 99 = .ok (.ireturn, 1) := by decide +kernel
theorem dX8_street_0 : decode cX8_street 0 = .ok (.aload_n 0, 1) := by decide +kernel
theorem dX8_street_1 : decode cX8_street 1 = .ok (.invokevirtual 128, 3) := by decide +kernel
theorem dX8_street_4 : decode cX8_street 4 = .ok (.istore_n 1, 1) := by decide +kernel
theorem dX8_street_5 : decode cX8_street 5 = .ok (.aload_n 0, 1) := by decide +kernel
theorem dX8_street_6 : decode cX8_street 6 = .ok (.iconst 0, 1) := by decide +kernel
theorem dX8_street_7 : decode cX8_street 7 = .ok (.putfield 81, 3) := by decide +kernel
theorem dX8_street_10 : decode cX8_street 10 = .ok (.iload_n 1, 1) := by decide +kernel
theorem dX8_street_11 : decode cX8_street 11 = .ok (.ifCond .ne 19, 3) := by decide +kernel
theorem dX8_street_14 : decode cX8_street 14 = .ok (.aload_n 0, 1) := by decide +kernel
theorem dX8_street_15 : decode cX8_street 15 = .ok (.aload_n 0, 1) := by decide +kernel
theorem dX8_street_16 : decode cX8_street 16 = .ok (.getfield 105, 3) := by decide +kernel
theorem dX8_street_19 : decode cX8_street 19 = .ok (.putfield 131, 3) := by decide +kernel
theorem dX8_street_22 : decode cX8_street 22 = .ok (.ldc 134, 2) := by decide +kernel
theorem dX8_street_24 : decode cX8_street 24 = .ok (.aload_n 0, 1) := by decide +kernel
theorem dX8_street_25 : decode cX8_street 25 = .ok (.getfield 88, 3) := by decide +kernel
theorem dX8_street_28 : decode cX8_street 28 = .ok (.isub, 1) := by decide +kernel
theorem dX8_street_29 : decode cX8_street 29 = .ok (.ireturn, 1) := by decide +kernel
theorem dX8_street_30 : decode cX8_street 30 = .ok (.iconst 0, 1) := by decide +kernel
theorem dX8_street_31 : decode cX8_street 31 = .ok (.istore_n 2, 1) := by decide +kernel
theorem dX8_street_32 : decode cX8_street 32 = .ok (.iload_n 2, 1) := by decide +kernel
theorem dX8_street_33 : decode cX8_street 33 = .ok (.bipush 29, 2) := by decide +kernel
theorem dX8_street_35 : decode cX8_street 35 = .ok (.if_icmp .ge 21, 3) := by decide +kernel
theorem dX8_street_38 : decode cX8_street 38 = .ok (.aload_n 0, 1) := by decide +kernel
theorem dX8_street_39 : decode cX8_street 39 = .ok (.getfield 19, 3) := by decide +kernel
theorem dX8_street_42 : decode cX8_street 42 = .ok (.iload_n 2, 1) := by decide +kernel
theorem dX8_street_43 : decode cX8_street 43 = .ok (.aload_n 0, 1) := by decide +kernel
theorem dX8_street_44 : decode cX8_street 44 = .ok (.getfield 28, 3) := by decide +kernel
theorem dX8_street_47 : decode cX8_street 47 = .ok (.iload_n 2, 1) := by decide +kernel
theorem dX8_street_48 : decode cX8_street 48 = .ok (.iaload, 1) := by decide +kernel
theorem dX8_street_49 : decode cX8_street 49 = .ok (.iastore, 1) := by decide +kernel
theorem dX8_street_50 : decode cX8_street 50 = .ok (.iinc 2 1, 3) := by decide +kernel
theorem dX8_street_53 : decode cX8_street 53 = .ok (.goto (-21), 3) := by decide +kernel
theorem dX8_street_56 : decode cX8_street 56 = .ok (.aload_n 0, 1) := by decide +kernel
theorem dX8_street_57 : decode cX8_street 57 = .ok (.iconst 1, 1) := by decide +kernel
theorem dX8_street_58 : decode cX8_street 58 = .ok (.putfield 135, 3) := by decide +kernel
theorem dX8_street_61 : decode cX8_street 61 = .ok (.aload_n 0, 1) := by decide +kernel
theorem dX8_street_62 : decode cX8_street 62 = .ok (.iconst 0, 1) := by decide +kernel
theorem dX8_street_63 : decode cX8_street 63 = .ok (.putfield 139, 3) := by decide +kernel
theorem dX8_street_66 : decode cX8_street 66 = .ok (.aload_n 0, 1) := by decide +kernel
theorem dX8_street_67 : decode cX8_street 67 = .ok (.getfield 19, 3) := by decide +kernel
theorem dX8_street_70 : decode cX8_street 70 = .ok (.iconst 0, 1) := by decide +kernel
theorem dX8_street_71 : decode cX8_street 71 = .ok (.iaload, 1) := by decide +kernel
theorem dX8_street_72 : decode cX8_street 72 = .ok (.ireturn, 1) := by decide +kernel
theorem dX8_fault_0 : decode cX8_fault 0 = .ok (.aload_n 0, 1) := by decide +kernel
theorem dX8_fault_1 : decode cX8_fault 1 = .ok (.getfield 131, 3) := by decide +kernel
theorem dX8_fault_4 : decode cX8_fault 4 = .ok (.ireturn, 1) := by decide +kernel
theorem dX8_isHouse_0 : decode cX8_isHouse 0 = .ok (.iload_n 1, 1) := by decide +kernel
theorem dX8_isHouse_1 : decode cX8_isHouse 1 = .ok (.i2l, 1) := by decide +kernel
theorem dX8_isHouse_2 : decode cX8_isHouse 2 = .ok (.lconst 0, 1) := by decide +kernel
theorem dX8_isHouse_3 : decode cX8_isHouse 3 = .ok (.aload_n 0, 1) := by decide +kernel
theorem dX8_isHouse_4 : decode cX8_isHouse 4 = .ok (.getfield 19, 3) := by decide +kernel
theorem dX8_isHouse_7 : decode cX8_isHouse 7 = .ok (.iconst 0, 1) := by decide +kernel
theorem dX8_isHouse_8 : decode cX8_isHouse 8 = .ok (.iaload, 1) := by decide +kernel
theorem dX8_isHouse_9 : decode cX8_isHouse 9 = .ok (.iconst 1, 1) := by decide +kernel
theorem dX8_isHouse_10 : decode cX8_isHouse 10 = .ok (.isub, 1) := by decide +kernel
theorem dX8_isHouse_11 : decode cX8_isHouse 11 = .ok (.i2l, 1) := by decide +kernel
theorem dX8_isHouse_12 : decode cX8_isHouse 12 = .ok (.invokestatic 57, 3) := by decide +kernel
theorem dX8_isHouse_15 : decode cX8_isHouse 15 = .ok (.ireturn, 1) := by decide +kernel
theorem dX8_stands_0 : decode cX8_stands 0 = .ok (.aload_n 0, 1) := by decide +kernel
theorem dX8_stands_1 : decode cX8_stands 1 = .ok (.getfield 19, 3) := by decide +kernel
theorem dX8_stands_4 : decode cX8_stands 4 = .ok (.bipush 21, 2) := by decide +kernel
theorem dX8_stands_6 : decode cX8_stands 6 = .ok (.iload_n 1, 1) := by decide +kernel
theorem dX8_stands_7 : decode cX8_stands 7 = .ok (.iadd, 1) := by decide +kernel
theorem dX8_stands_8 : decode cX8_stands 8 = .ok (.iaload, 1) := by decide +kernel
theorem dX8_stands_9 : decode cX8_stands 9 = .ok (.ifCond .le 7, 3) := by decide +kernel
theorem dX8_stands_12 : decode cX8_stands 12 = .ok (.iconst 1, 1) := by decide +kernel
theorem dX8_stands_13 : decode cX8_stands 13 = .ok (.goto 4, 3) := by decide +kernel
theorem dX8_stands_16 : decode cX8_stands 16 = .ok (.iconst 0, 1) := by decide +kernel
theorem dX8_stands_17 : decode cX8_stands 17 = .ok (.ireturn, 1) := by decide +kernel
theorem dX8_leans_0 : decode cX8_leans 0 = .ok (.aload_n 0, 1) := by decide +kernel
theorem dX8_leans_1 : decode cX8_leans 1 = .ok (.iload_n 1, 1) := by decide +kernel
theorem dX8_leans_2 : decode cX8_leans 2 = .ok (.invokevirtual 142, 3) := by decide +kernel
theorem dX8_leans_5 : decode cX8_leans 5 = .ok (.ifCond .eq 25, 3) := by decide +kernel
theorem dX8_leans_8 : decode cX8_leans 8 = .ok (.aload_n 0, 1) := by decide +kernel
theorem dX8_leans_9 : decode cX8_leans 9 = .ok (.getfield 19, 3) := by decide +kernel
theorem dX8_leans_12 : decode cX8_leans 12 = .ok (.bipush 21, 2) := by decide +kernel
theorem dX8_leans_14 : decode cX8_leans 14 = .ok (.iload_n 1, 1) := by decide +kernel
theorem dX8_leans_15 : decode cX8_leans 15 = .ok (.iadd, 1) := by decide +kernel
theorem dX8_leans_16 : decode cX8_leans 16 = .ok (.iaload, 1) := by decide +kernel
theorem dX8_leans_17 : decode cX8_leans 17 = .ok (.aload_n 0, 1) := by decide +kernel
theorem dX8_leans_18 : decode cX8_leans 18 = .ok (.getfield 19, 3) := by decide +kernel
theorem dX8_leans_21 : decode cX8_leans 21 = .ok (.iconst 2, 1) := by decide +kernel
theorem dX8_leans_22 : decode cX8_leans 22 = .ok (.iaload, 1) := by decide +kernel
theorem dX8_leans_23 : decode cX8_leans 23 = .ok (.if_icmp .ge 7, 3) := by decide +kernel
theorem dX8_leans_26 : decode cX8_leans 26 = .ok (.iconst 1, 1) := by decide +kernel
theorem dX8_leans_27 : decode cX8_leans 27 = .ok (.goto 4, 3) := by decide +kernel
theorem dX8_leans_30 : decode cX8_leans 30 = .ok (.iconst 0, 1) := by decide +kernel
theorem dX8_leans_31 : decode cX8_leans 31 = .ok (.ireturn, 1) := by decide +kernel
theorem dX8_touches_0 : decode cX8_touches 0 = .ok (.iload_n 1, 1) := by decide +kernel
theorem dX8_touches_1 : decode cX8_touches 1 = .ok (.ifCond .le 22, 3) := by decide +kernel
theorem dX8_touches_4 : decode cX8_touches 4 = .ok (.aload_n 0, 1) := by decide +kernel
theorem dX8_touches_5 : decode cX8_touches 5 = .ok (.getfield 19, 3) := by decide +kernel
theorem dX8_touches_8 : decode cX8_touches 8 = .ok (.iconst 4, 1) := by decide +kernel
theorem dX8_touches_9 : decode cX8_touches 9 = .ok (.iaload, 1) := by decide +kernel
theorem dX8_touches_10 : decode cX8_touches 10 = .ok (.iload_n 1, 1) := by decide +kernel
theorem dX8_touches_11 : decode cX8_touches 11 = .ok (.iconst 1, 1) := by decide +kernel
theorem dX8_touches_12 : decode cX8_touches 12 = .ok (.isub, 1) := by decide +kernel
theorem dX8_touches_13 : decode cX8_touches 13 = .ok (.invokestatic 145, 3) := by decide +kernel
theorem dX8_touches_16 : decode cX8_touches 16 = .ok (.ifCond .eq 7, 3) := by decide +kernel
theorem dX8_touches_19 : decode cX8_touches 19 = .ok (.iconst 1, 1) := by decide +kernel
theorem dX8_touches_20 : decode cX8_touches 20 = .ok (.goto 4, 3) := by decide +kernel
theorem dX8_touches_23 : decode cX8_touches 23 = .ok (.iconst 0, 1) := by decide +kernel
theorem dX8_touches_24 : decode cX8_touches 24 = .ok (.aload_n 0, 1) := by decide +kernel
theorem dX8_touches_25 : decode cX8_touches 25 = .ok (.getfield 19, 3) := by decide +kernel
theorem dX8_touches_28 : decode cX8_touches 28 = .ok (.iconst 4, 1) := by decide +kernel
theorem dX8_touches_29 : decode cX8_touches 29 = .ok (.iaload, 1) := by decide +kernel
theorem dX8_touches_30 : decode cX8_touches 30 = .ok (.iload_n 1, 1) := by decide +kernel
theorem dX8_touches_31 : decode cX8_touches 31 = .ok (.invokestatic 145, 3) := by decide +kernel
theorem dX8_touches_34 : decode cX8_touches 34 = .ok (.ifCond .eq 7, 3) := by decide +kernel
theorem dX8_touches_37 : decode cX8_touches 37 = .ok (.iconst 1, 1) := by decide +kernel
theorem dX8_touches_38 : decode cX8_touches 38 = .ok (.goto 4, 3) := by decide +kernel
theorem dX8_touches_41 : decode cX8_touches 41 = .ok (.iconst 0, 1) := by decide +kernel
theorem dX8_touches_42 : decode cX8_touches 42 = .ok (.iadd, 1) := by decide +kernel
theorem dX8_touches_43 : decode cX8_touches 43 = .ok (.ireturn, 1) := by decide +kernel
theorem dX8_lossOf_0 : decode cX8_lossOf 0 = .ok (.aload_n 0, 1) := by decide +kernel
theorem dX8_lossOf_1 : decode cX8_lossOf 1 = .ok (.getfield 19, 3) := by decide +kernel
theorem dX8_lossOf_4 : decode cX8_lossOf 4 = .ok (.bipush 13, 2) := by decide +kernel
theorem dX8_lossOf_6 : decode cX8_lossOf 6 = .ok (.iload_n 1, 1) := by decide +kernel
theorem dX8_lossOf_7 : decode cX8_lossOf 7 = .ok (.iadd, 1) := by decide +kernel
theorem dX8_lossOf_8 : decode cX8_lossOf 8 = .ok (.iaload, 1) := by decide +kernel
theorem dX8_lossOf_9 : decode cX8_lossOf 9 = .ok (.istore_n 2, 1) := by decide +kernel
theorem dX8_lossOf_10 : decode cX8_lossOf 10 = .ok (.aload_n 0, 1) := by decide +kernel
theorem dX8_lossOf_11 : decode cX8_lossOf 11 = .ok (.iload_n 1, 1) := by decide +kernel
theorem dX8_lossOf_12 : decode cX8_lossOf 12 = .ok (.invokevirtual 142, 3) := by decide +kernel
theorem dX8_lossOf_15 : decode cX8_lossOf 15 = .ok (.ifCond .ne 5, 3) := by decide +kernel
theorem dX8_lossOf_18 : decode cX8_lossOf 18 = .ok (.iconst 0, 1) := by decide +kernel
theorem dX8_lossOf_19 : decode cX8_lossOf 19 = .ok (.ireturn, 1) := by decide +kernel
theorem dX8_lossOf_20 : decode cX8_lossOf 20 = .ok (.aload_n 0, 1) := by decide +kernel
theorem dX8_lossOf_21 : decode cX8_lossOf 21 = .ok (.getfield 19, 3) := by decide +kernel
theorem dX8_lossOf_24 : decode cX8_lossOf 24 = .ok (.iconst 5, 1) := by decide +kernel
theorem dX8_lossOf_25 : decode cX8_lossOf 25 = .ok (.iload_n 1, 1) := by decide +kernel
theorem dX8_lossOf_26 : decode cX8_lossOf 26 = .ok (.iadd, 1) := by decide +kernel
theorem dX8_lossOf_27 : decode cX8_lossOf 27 = .ok (.iaload, 1) := by decide +kernel
theorem dX8_lossOf_28 : decode cX8_lossOf 28 = .ok (.tableswitch 71 1 4 #[32, 34, 50, 63], 32) := by decide +kernel
theorem dX8_lossOf_60 : decode cX8_lossOf 60 = .ok (.iload_n 2, 1) := by decide +kernel
theorem dX8_lossOf_61 : decode cX8_lossOf 61 = .ok (.ireturn, 1) := by decide +kernel
theorem dX8_lossOf_62 : decode cX8_lossOf 62 = .ok (.aload_n 0, 1) := by decide +kernel
theorem dX8_lossOf_63 : decode cX8_lossOf 63 = .ok (.iload_n 1, 1) := by decide +kernel
theorem dX8_lossOf_64 : decode cX8_lossOf 64 = .ok (.invokevirtual 149, 3) := by decide +kernel
theorem dX8_lossOf_67 : decode cX8_lossOf 67 = .ok (.ifCond .eq 9, 3) := by decide +kernel
theorem dX8_lossOf_70 : decode cX8_lossOf 70 = .ok (.iconst 2, 1) := by decide +kernel
theorem dX8_lossOf_71 : decode cX8_lossOf 71 = .ok (.iload_n 2, 1) := by decide +kernel
theorem dX8_lossOf_72 : decode cX8_lossOf 72 = .ok (.imul, 1) := by decide +kernel
theorem dX8_lossOf_73 : decode cX8_lossOf 73 = .ok (.goto 4, 3) := by decide +kernel
theorem dX8_lossOf_76 : decode cX8_lossOf 76 = .ok (.iload_n 2, 1) := by decide +kernel
theorem dX8_lossOf_77 : decode cX8_lossOf 77 = .ok (.ireturn, 1) := by decide +kernel
theorem dX8_lossOf_78 : decode cX8_lossOf 78 = .ok (.iload_n 2, 1) := by decide +kernel
theorem dX8_lossOf_79 : decode cX8_lossOf 79 = .ok (.iconst 4, 1) := by decide +kernel
theorem dX8_lossOf_80 : decode cX8_lossOf 80 = .ok (.if_icmp .ge 7, 3) := by decide +kernel
theorem dX8_lossOf_83 : decode cX8_lossOf 83 = .ok (.iconst 1, 1) := by decide +kernel
theorem dX8_lossOf_84 : decode cX8_lossOf 84 = .ok (.goto 6, 3) := by decide +kernel
theorem dX8_lossOf_87 : decode cX8_lossOf 87 = .ok (.iload_n 2, 1) := by decide +kernel
theorem dX8_lossOf_88 : decode cX8_lossOf 88 = .ok (.iconst 2, 1) := by decide +kernel
theorem dX8_lossOf_89 : decode cX8_lossOf 89 = .ok (.idiv, 1) := by decide +kernel
theorem dX8_lossOf_90 : decode cX8_lossOf 90 = .ok (.ireturn, 1) := by decide +kernel
theorem dX8_lossOf_91 : decode cX8_lossOf 91 = .ok (.iconst 1, 1) := by decide +kernel
theorem dX8_lossOf_92 : decode cX8_lossOf 92 = .ok (.aload_n 0, 1) := by decide +kernel
theorem dX8_lossOf_93 : decode cX8_lossOf 93 = .ok (.iload_n 1, 1) := by decide +kernel
theorem dX8_lossOf_94 : decode cX8_lossOf 94 = .ok (.invokevirtual 152, 3) := by decide +kernel
theorem dX8_lossOf_97 : decode cX8_lossOf 97 = .ok (.iadd, 1) := by decide +kernel
theorem dX8_lossOf_98 : decode cX8_lossOf 98 = .ok (.ireturn, 1) := by decide +kernel
theorem dX8_lossOf_99 : decode cX8_lossOf 99 = .ok (.aload_n 0, 1) := by decide +kernel
theorem dX8_lossOf_100 : decode cX8_lossOf 100 = .ok (.getfield 19, 3) := by decide +kernel
theorem dX8_lossOf_103 : decode cX8_lossOf 103 = .ok (.bipush 21, 2) := by decide +kernel
theorem dX8_lossOf_105 : decode cX8_lossOf 105 = .ok (.iload_n 1, 1) := by decide +kernel
theorem dX8_lossOf_106 : decode cX8_lossOf 106 = .ok (.iadd, 1) := by decide +kernel
theorem dX8_lossOf_107 : decode cX8_lossOf 107 = .ok (.iaload, 1) := by decide +kernel
theorem dX8_lossOf_108 : decode cX8_lossOf 108 = .ok (.bipush 50, 2) := by decide +kernel
theorem dX8_lossOf_110 : decode cX8_lossOf 110 = .ok (.if_icmp .lt 7, 3) := by decide +kernel
theorem dX8_lossOf_113 : decode cX8_lossOf 113 = .ok (.iconst 0, 1) := by decide +kernel
theorem dX8_lossOf_114 : decode cX8_lossOf 114 = .ok (.goto 10, 3) := by decide +kernel
theorem dX8_lossOf_117 : decode cX8_lossOf 117 = .ok (.iconst 1, 1) := by decide +kernel
theorem dX8_lossOf_118 : decode cX8_lossOf 118 = .ok (.aload_n 0, 1) := by decide +kernel
theorem dX8_lossOf_119 : decode cX8_lossOf 119 = .ok (.iload_n 1, 1) := by decide +kernel
theorem dX8_lossOf_120 : decode cX8_lossOf 120 = .ok (.invokevirtual 152, 3) := by decide +kernel
theorem dX8_lossOf_123 : decode cX8_lossOf 123 = .ok (.iadd, 1) := by decide +kernel
theorem dX8_lossOf_124 : decode cX8_lossOf 124 = .ok (.ireturn, 1) := by decide +kernel
theorem dX8_loses_0 : decode cX8_loses 0 = .ok (.aload_n 0, 1) := by decide +kernel
theorem dX8_loses_1 : decode cX8_loses 1 = .ok (.getfield 19, 3) := by decide +kernel
theorem dX8_loses_4 : decode cX8_loses 4 = .ok (.bipush 21, 2) := by decide +kernel
theorem dX8_loses_6 : decode cX8_loses 6 = .ok (.iload_n 1, 1) := by decide +kernel
theorem dX8_loses_7 : decode cX8_loses 7 = .ok (.iadd, 1) := by decide +kernel
theorem dX8_loses_8 : decode cX8_loses 8 = .ok (.aload_n 0, 1) := by decide +kernel
theorem dX8_loses_9 : decode cX8_loses 9 = .ok (.getfield 19, 3) := by decide +kernel
theorem dX8_loses_12 : decode cX8_loses 12 = .ok (.bipush 21, 2) := by decide +kernel
theorem dX8_loses_14 : decode cX8_loses 14 = .ok (.iload_n 1, 1) := by decide +kernel
theorem dX8_loses_15 : decode cX8_loses 15 = .ok (.iadd, 1) := by decide +kernel
theorem dX8_loses_16 : decode cX8_loses 16 = .ok (.iaload, 1) := by decide +kernel
theorem dX8_loses_17 : decode cX8_loses 17 = .ok (.iload_n 2, 1) := by decide +kernel
theorem dX8_loses_18 : decode cX8_loses 18 = .ok (.if_icmp .le 17, 3) := by decide +kernel
theorem dX8_loses_21 : decode cX8_loses 21 = .ok (.aload_n 0, 1) := by decide +kernel
theorem dX8_loses_22 : decode cX8_loses 22 = .ok (.getfield 19, 3) := by decide +kernel
theorem dX8_loses_25 : decode cX8_loses 25 = .ok (.bipush 21, 2) := by decide +kernel
theorem dX8_loses_27 : decode cX8_loses 27 = .ok (.iload_n 1, 1) := by decide +kernel
theorem dX8_loses_28 : decode cX8_loses 28 = .ok (.iadd, 1) := by decide +kernel
theorem dX8_loses_29 : decode cX8_loses 29 = .ok (.iaload, 1) := by decide +kernel
theorem dX8_loses_30 : decode cX8_loses 30 = .ok (.iload_n 2, 1) := by decide +kernel
theorem dX8_loses_31 : decode cX8_loses 31 = .ok (.isub, 1) := by decide +kernel
theorem dX8_loses_32 : decode cX8_loses 32 = .ok (.goto 4, 3) := by decide +kernel
theorem dX8_loses_35 : decode cX8_loses 35 = .ok (.iconst 0, 1) := by decide +kernel
theorem dX8_loses_36 : decode cX8_loses 36 = .ok (.iastore, 1) := by decide +kernel
theorem dX8_loses_37 : decode cX8_loses 37 = .ok (.return_, 1) := by decide +kernel
theorem dX8_standing_0 : decode cX8_standing 0 = .ok (.iconst 0, 1) := by decide +kernel
theorem dX8_standing_1 : decode cX8_standing 1 = .ok (.istore_n 1, 1) := by decide +kernel
theorem dX8_standing_2 : decode cX8_standing 2 = .ok (.iconst 0, 1) := by decide +kernel
theorem dX8_standing_3 : decode cX8_standing 3 = .ok (.istore_n 2, 1) := by decide +kernel
theorem dX8_standing_4 : decode cX8_standing 4 = .ok (.iload_n 2, 1) := by decide +kernel
theorem dX8_standing_5 : decode cX8_standing 5 = .ok (.aload_n 0, 1) := by decide +kernel
theorem dX8_standing_6 : decode cX8_standing 6 = .ok (.getfield 19, 3) := by decide +kernel
theorem dX8_standing_9 : decode cX8_standing 9 = .ok (.iconst 0, 1) := by decide +kernel
theorem dX8_standing_10 : decode cX8_standing 10 = .ok (.iaload, 1) := by decide +kernel
theorem dX8_standing_11 : decode cX8_standing 11 = .ok (.if_icmp .ge 27, 3) := by decide +kernel
theorem dX8_standing_14 : decode cX8_standing 14 = .ok (.iload_n 1, 1) := by decide +kernel
theorem dX8_standing_15 : decode cX8_standing 15 = .ok (.aload_n 0, 1) := by decide +kernel
theorem dX8_standing_16 : decode cX8_standing 16 = .ok (.iload_n 2, 1) := by decide +kernel
theorem dX8_standing_17 : decode cX8_standing 17 = .ok (.invokevirtual 142, 3) := by decide +kernel
theorem dX8_standing_20 : decode cX8_standing 20 = .ok (.ifCond .eq 9, 3) := by decide +kernel
theorem dX8_standing_23 : decode cX8_standing 23 = .ok (.iconst 1, 1) := by decide +kernel
theorem dX8_standing_24 : decode cX8_standing 24 = .ok (.iload_n 2, 1) := by decide +kernel
theorem dX8_standing_25 : decode cX8_standing 25 = .ok (.ishl, 1) := by decide +kernel
theorem dX8_standing_26 : decode cX8_standing 26 = .ok (.goto 4, 3) := by decide +kernel
theorem dX8_standing_29 : decode cX8_standing 29 = .ok (.iconst 0, 1) := by decide +kernel
theorem dX8_standing_30 : decode cX8_standing 30 = .ok (.ior, 1) := by decide +kernel
theorem dX8_standing_31 : decode cX8_standing 31 = .ok (.istore_n 1, 1) := by decide +kernel
theorem dX8_standing_32 : decode cX8_standing 32 = .ok (.iinc 2 1, 3) := by decide +kernel
theorem dX8_standing_35 : decode cX8_standing 35 = .ok (.goto (-31), 3) := by decide +kernel
theorem dX8_standing_38 : decode cX8_standing 38 = .ok (.iload_n 1, 1) := by decide +kernel
theorem dX8_standing_39 : decode cX8_standing 39 = .ok (.ireturn, 1) := by decide +kernel
theorem dX8_oneHour_0 : decode cX8_oneHour 0 = .ok (.aload_n 0, 1) := by decide +kernel
theorem dX8_oneHour_1 : decode cX8_oneHour 1 = .ok (.invokevirtual 155, 3) := by decide +kernel
theorem dX8_oneHour_4 : decode cX8_oneHour 4 = .ok (.istore_n 1, 1) := by decide +kernel
theorem dX8_oneHour_5 : decode cX8_oneHour 5 = .ok (.iconst 0, 1) := by decide +kernel
theorem dX8_oneHour_6 : decode cX8_oneHour 6 = .ok (.istore_n 2, 1) := by decide +kernel
theorem dX8_oneHour_7 : decode cX8_oneHour 7 = .ok (.iload_n 2, 1) := by decide +kernel
theorem dX8_oneHour_8 : decode cX8_oneHour 8 = .ok (.aload_n 0, 1) := by decide +kernel
theorem dX8_oneHour_9 : decode cX8_oneHour 9 = .ok (.getfield 19, 3) := by decide +kernel
theorem dX8_oneHour_12 : decode cX8_oneHour 12 = .ok (.iconst 0, 1) := by decide +kernel
theorem dX8_oneHour_13 : decode cX8_oneHour 13 = .ok (.iaload, 1) := by decide +kernel
theorem dX8_oneHour_14 : decode cX8_oneHour 14 = .ok (.if_icmp .ge 19, 3) := by decide +kernel
theorem dX8_oneHour_17 : decode cX8_oneHour 17 = .ok (.aload_n 0, 1) := by decide +kernel
theorem dX8_oneHour_18 : decode cX8_oneHour 18 = .ok (.iload_n 2, 1) := by decide +kernel
theorem dX8_oneHour_19 : decode cX8_oneHour 19 = .ok (.aload_n 0, 1) := by decide +kernel
theorem dX8_oneHour_20 : decode cX8_oneHour 20 = .ok (.iload_n 2, 1) := by decide +kernel
theorem dX8_oneHour_21 : decode cX8_oneHour 21 = .ok (.invokevirtual 159, 3) := by decide +kernel
theorem dX8_oneHour_24 : decode cX8_oneHour 24 = .ok (.invokevirtual 162, 3) := by decide +kernel
theorem dX8_oneHour_27 : decode cX8_oneHour 27 = .ok (.iinc 2 1, 3) := by decide +kernel
theorem dX8_oneHour_30 : decode cX8_oneHour 30 = .ok (.goto (-23), 3) := by decide +kernel
theorem dX8_oneHour_33 : decode cX8_oneHour 33 = .ok (.iconst 0, 1) := by decide +kernel
theorem dX8_oneHour_34 : decode cX8_oneHour 34 = .ok (.istore_n 2, 1) := by decide +kernel
theorem dX8_oneHour_35 : decode cX8_oneHour 35 = .ok (.iload_n 2, 1) := by decide +kernel
theorem dX8_oneHour_36 : decode cX8_oneHour 36 = .ok (.aload_n 0, 1) := by decide +kernel
theorem dX8_oneHour_37 : decode cX8_oneHour 37 = .ok (.getfield 19, 3) := by decide +kernel
theorem dX8_oneHour_40 : decode cX8_oneHour 40 = .ok (.iconst 0, 1) := by decide +kernel
theorem dX8_oneHour_41 : decode cX8_oneHour 41 = .ok (.iaload, 1) := by decide +kernel
theorem dX8_oneHour_42 : decode cX8_oneHour 42 = .ok (.iconst 1, 1) := by decide +kernel
theorem dX8_oneHour_43 : decode cX8_oneHour 43 = .ok (.isub, 1) := by decide +kernel
theorem dX8_oneHour_44 : decode cX8_oneHour 44 = .ok (.if_icmp .ge 92, 3) := by decide +kernel
theorem dX8_oneHour_47 : decode cX8_oneHour 47 = .ok (.aload_n 0, 1) := by decide +kernel
theorem dX8_oneHour_48 : decode cX8_oneHour 48 = .ok (.getfield 19, 3) := by decide +kernel
theorem dX8_oneHour_51 : decode cX8_oneHour 51 = .ok (.iconst 4, 1) := by decide +kernel
theorem dX8_oneHour_52 : decode cX8_oneHour 52 = .ok (.iaload, 1) := by decide +kernel
theorem dX8_oneHour_53 : decode cX8_oneHour 53 = .ok (.iload_n 2, 1) := by decide +kernel
theorem dX8_oneHour_54 : decode cX8_oneHour 54 = .ok (.invokestatic 145, 3) := by decide +kernel
theorem dX8_oneHour_57 : decode cX8_oneHour 57 = .ok (.ifCond .eq 73, 3) := by decide +kernel
theorem dX8_oneHour_60 : decode cX8_oneHour 60 = .ok (.aload_n 0, 1) := by decide +kernel
theorem dX8_oneHour_61 : decode cX8_oneHour 61 = .ok (.iload_n 2, 1) := by decide +kernel
theorem dX8_oneHour_62 : decode cX8_oneHour 62 = .ok (.invokevirtual 142, 3) := by decide +kernel
theorem dX8_oneHour_65 : decode cX8_oneHour 65 = .ok (.ifCond .eq 65, 3) := by decide +kernel
theorem dX8_oneHour_68 : decode cX8_oneHour 68 = .ok (.aload_n 0, 1) := by decide +kernel
theorem dX8_oneHour_69 : decode cX8_oneHour 69 = .ok (.iload_n 2, 1) := by decide +kernel
theorem dX8_oneHour_70 : decode cX8_oneHour 70 = .ok (.iconst 1, 1) := by decide +kernel
theorem dX8_oneHour_71 : decode cX8_oneHour 71 = .ok (.iadd, 1) := by decide +kernel
theorem dX8_oneHour_72 : decode cX8_oneHour 72 = .ok (.invokevirtual 142, 3) := by decide +kernel
theorem dX8_oneHour_75 : decode cX8_oneHour 75 = .ok (.ifCond .eq 55, 3) := by decide +kernel
theorem dX8_oneHour_78 : decode cX8_oneHour 78 = .ok (.aload_n 0, 1) := by decide +kernel
theorem dX8_oneHour_79 : decode cX8_oneHour 79 = .ok (.getfield 19, 3) := by decide +kernel
theorem dX8_oneHour_82 : decode cX8_oneHour 82 = .ok (.bipush 21, 2) := by decide +kernel
theorem dX8_oneHour_84 : decode cX8_oneHour 84 = .ok (.iload_n 2, 1) := by decide +kernel
theorem dX8_oneHour_85 : decode cX8_oneHour 85 = .ok (.iadd, 1) := by decide +kernel
theorem dX8_oneHour_86 : decode cX8_oneHour 86 = .ok (.iaload, 1) := by decide +kernel
theorem dX8_oneHour_87 : decode cX8_oneHour 87 = .ok (.aload_n 0, 1) := by decide +kernel
theorem dX8_oneHour_88 : decode cX8_oneHour 88 = .ok (.getfield 19, 3) := by decide +kernel
theorem dX8_oneHour_91 : decode cX8_oneHour 91 = .ok (.bipush 21, 2) := by decide +kernel
theorem dX8_oneHour_93 : decode cX8_oneHour 93 = .ok (.iload_n 2, 1) := by decide +kernel
theorem dX8_oneHour_94 : decode cX8_oneHour 94 = .ok (.iadd, 1) := by decide +kernel
theorem dX8_oneHour_95 : decode cX8_oneHour 95 = .ok (.iconst 1, 1) := by decide +kernel
theorem dX8_oneHour_96 : decode cX8_oneHour 96 = .ok (.iadd, 1) := by decide +kernel
theorem dX8_oneHour_97 : decode cX8_oneHour 97 = .ok (.iaload, 1) := by decide +kernel
theorem dX8_oneHour_98 : decode cX8_oneHour 98 = .ok (.isub, 1) := by decide +kernel
theorem dX8_oneHour_99 : decode cX8_oneHour 99 = .ok (.iconst 4, 1) := by decide +kernel
theorem dX8_oneHour_100 : decode cX8_oneHour 100 = .ok (.idiv, 1) := by decide +kernel
theorem dX8_oneHour_101 : decode cX8_oneHour 101 = .ok (.istore_n 3, 1) := by decide +kernel
theorem dX8_oneHour_102 : decode cX8_oneHour 102 = .ok (.aload_n 0, 1) := by decide +kernel
theorem dX8_oneHour_103 : decode cX8_oneHour 103 = .ok (.getfield 19, 3) := by decide +kernel
theorem dX8_oneHour_106 : decode cX8_oneHour 106 = .ok (.bipush 21, 2) := by decide +kernel
theorem dX8_oneHour_108 : decode cX8_oneHour 108 = .ok (.iload_n 2, 1) := by decide +kernel
theorem dX8_oneHour_109 : decode cX8_oneHour 109 = .ok (.iadd, 1) := by decide +kernel
theorem dX8_oneHour_110 : decode cX8_oneHour 110 = .ok (.dup2, 1) := by decide +kernel
theorem dX8_oneHour_111 : decode cX8_oneHour 111 = .ok (.iaload, 1) := by decide +kernel
theorem dX8_oneHour_112 : decode cX8_oneHour 112 = .ok (.iload_n 3, 1) := by decide +kernel
theorem dX8_oneHour_113 : decode cX8_oneHour 113 = .ok (.isub, 1) := by decide +kernel
theorem dX8_oneHour_114 : decode cX8_oneHour 114 = .ok (.iastore, 1) := by decide +kernel
theorem dX8_oneHour_115 : decode cX8_oneHour 115 = .ok (.aload_n 0, 1) := by decide +kernel
theorem dX8_oneHour_116 : decode cX8_oneHour 116 = .ok (.getfield 19, 3) := by decide +kernel
theorem dX8_oneHour_119 : decode cX8_oneHour 119 = .ok (.bipush 21, 2) := by decide +kernel
theorem dX8_oneHour_121 : decode cX8_oneHour 121 = .ok (.iload_n 2, 1) := by decide +kernel
theorem dX8_oneHour_122 : decode cX8_oneHour 122 = .ok (.iadd, 1) := by decide +kernel
theorem dX8_oneHour_123 : decode cX8_oneHour 123 = .ok (.iconst 1, 1) := by decide +kernel
theorem dX8_oneHour_124 : decode cX8_oneHour 124 = .ok (.iadd, 1) := by decide +kernel
theorem dX8_oneHour_125 : decode cX8_oneHour 125 = .ok (.dup2, 1) := by decide +kernel
theorem dX8_oneHour_126 : decode cX8_oneHour 126 = .ok (.iaload, 1) := by decide +kernel
theorem dX8_oneHour_127 : decode cX8_oneHour 127 = .ok (.iload_n 3, 1) := by decide +kernel
theorem dX8_oneHour_128 : decode cX8_oneHour 128 = .ok (.iadd, 1) := by decide +kernel
theorem dX8_oneHour_129 : decode cX8_oneHour 129 = .ok (.iastore, 1) := by decide +kernel
theorem dX8_oneHour_130 : decode cX8_oneHour 130 = .ok (.iinc 2 1, 3) := by decide +kernel
theorem dX8_oneHour_133 : decode cX8_oneHour 133 = .ok (.goto (-98), 3) := by decide +kernel
theorem dX8_oneHour_136 : decode cX8_oneHour 136 = .ok (.iconst 0, 1) := by decide +kernel
theorem dX8_oneHour_137 : decode cX8_oneHour 137 = .ok (.istore_n 2, 1) := by decide +kernel
theorem dX8_oneHour_138 : decode cX8_oneHour 138 = .ok (.iload_n 2, 1) := by decide +kernel
theorem dX8_oneHour_139 : decode cX8_oneHour 139 = .ok (.aload_n 0, 1) := by decide +kernel
theorem dX8_oneHour_140 : decode cX8_oneHour 140 = .ok (.getfield 19, 3) := by decide +kernel
theorem dX8_oneHour_143 : decode cX8_oneHour 143 = .ok (.iconst 0, 1) := by decide +kernel
theorem dX8_oneHour_144 : decode cX8_oneHour 144 = .ok (.iaload, 1) := by decide +kernel
theorem dX8_oneHour_145 : decode cX8_oneHour 145 = .ok (.iconst 1, 1) := by decide +kernel
theorem dX8_oneHour_146 : decode cX8_oneHour 146 = .ok (.isub, 1) := by decide +kernel
theorem dX8_oneHour_147 : decode cX8_oneHour 147 = .ok (.if_icmp .ge 38, 3) := by decide +kernel
theorem dX8_oneHour_150 : decode cX8_oneHour 150 = .ok (.iload_n 1, 1) := by decide +kernel
theorem dX8_oneHour_151 : decode cX8_oneHour 151 = .ok (.iload_n 2, 1) := by decide +kernel
theorem dX8_oneHour_152 : decode cX8_oneHour 152 = .ok (.invokestatic 145, 3) := by decide +kernel
theorem dX8_oneHour_155 : decode cX8_oneHour 155 = .ok (.ifCond .eq 24, 3) := by decide +kernel
theorem dX8_oneHour_158 : decode cX8_oneHour 158 = .ok (.aload_n 0, 1) := by decide +kernel
theorem dX8_oneHour_159 : decode cX8_oneHour 159 = .ok (.iload_n 2, 1) := by decide +kernel
theorem dX8_oneHour_160 : decode cX8_oneHour 160 = .ok (.invokevirtual 142, 3) := by decide +kernel
theorem dX8_oneHour_163 : decode cX8_oneHour 163 = .ok (.ifCond .ne 16, 3) := by decide +kernel
theorem dX8_oneHour_166 : decode cX8_oneHour 166 = .ok (.aload_n 0, 1) := by decide +kernel
theorem dX8_oneHour_167 : decode cX8_oneHour 167 = .ok (.iload_n 2, 1) := by decide +kernel
theorem dX8_oneHour_168 : decode cX8_oneHour 168 = .ok (.iconst 1, 1) := by decide +kernel
theorem dX8_oneHour_169 : decode cX8_oneHour 169 = .ok (.iadd, 1) := by decide +kernel
theorem dX8_oneHour_170 : decode cX8_oneHour 170 = .ok (.aload_n 0, 1) := by decide +kernel
theorem dX8_oneHour_171 : decode cX8_oneHour 171 = .ok (.getfield 19, 3) := by decide +kernel
theorem dX8_oneHour_174 : decode cX8_oneHour 174 = .ok (.iconst 2, 1) := by decide +kernel
theorem dX8_oneHour_175 : decode cX8_oneHour 175 = .ok (.iaload, 1) := by decide +kernel
theorem dX8_oneHour_176 : decode cX8_oneHour 176 = .ok (.invokevirtual 162, 3) := by decide +kernel
theorem dX8_oneHour_179 : decode cX8_oneHour 179 = .ok (.iinc 2 1, 3) := by decide +kernel
theorem dX8_oneHour_182 : decode cX8_oneHour 182 = .ok (.goto (-44), 3) := by decide +kernel
theorem dX8_oneHour_185 : decode cX8_oneHour 185 = .ok (.aload_n 0, 1) := by decide +kernel
theorem dX8_oneHour_186 : decode cX8_oneHour 186 = .ok (.getfield 19, 3) := by decide +kernel
theorem dX8_oneHour_189 : decode cX8_oneHour 189 = .ok (.iconst 3, 1) := by decide +kernel
theorem dX8_oneHour_190 : decode cX8_oneHour 190 = .ok (.dup2, 1) := by decide +kernel
theorem dX8_oneHour_191 : decode cX8_oneHour 191 = .ok (.iaload, 1) := by decide +kernel
theorem dX8_oneHour_192 : decode cX8_oneHour 192 = .ok (.iconst 1, 1) := by decide +kernel
theorem dX8_oneHour_193 : decode cX8_oneHour 193 = .ok (.iadd, 1) := by decide +kernel
theorem dX8_oneHour_194 : decode cX8_oneHour 194 = .ok (.iastore, 1) := by decide +kernel
theorem dX8_oneHour_195 : decode cX8_oneHour 195 = .ok (.return_, 1) := by decide +kernel
theorem dX8_lashBy_0 : decode cX8_lashBy 0 = .ok (.aload_n 0, 1) := by decide +kernel
theorem dX8_lashBy_1 : decode cX8_lashBy 1 = .ok (.getfield 19, 3) := by decide +kernel
theorem dX8_lashBy_4 : decode cX8_lashBy 4 = .ok (.bipush 21, 2) := by decide +kernel
theorem dX8_lashBy_6 : decode cX8_lashBy 6 = .ok (.iload_n 1, 1) := by decide +kernel
theorem dX8_lashBy_7 : decode cX8_lashBy 7 = .ok (.iadd, 1) := by decide +kernel
theorem dX8_lashBy_8 : decode cX8_lashBy 8 = .ok (.aload_n 0, 1) := by decide +kernel
theorem dX8_lashBy_9 : decode cX8_lashBy 9 = .ok (.getfield 19, 3) := by decide +kernel
theorem dX8_lashBy_12 : decode cX8_lashBy 12 = .ok (.bipush 21, 2) := by decide +kernel
theorem dX8_lashBy_14 : decode cX8_lashBy 14 = .ok (.iload_n 1, 1) := by decide +kernel
theorem dX8_lashBy_15 : decode cX8_lashBy 15 = .ok (.iadd, 1) := by decide +kernel
theorem dX8_lashBy_16 : decode cX8_lashBy 16 = .ok (.iaload, 1) := by decide +kernel
theorem dX8_lashBy_17 : decode cX8_lashBy 17 = .ok (.iload_n 2, 1) := by decide +kernel
theorem dX8_lashBy_18 : decode cX8_lashBy 18 = .ok (.iadd, 1) := by decide +kernel
theorem dX8_lashBy_19 : decode cX8_lashBy 19 = .ok (.bipush 99, 2) := by decide +kernel
theorem dX8_lashBy_21 : decode cX8_lashBy 21 = .ok (.if_icmp .le 8, 3) := by decide +kernel
theorem dX8_lashBy_24 : decode cX8_lashBy 24 = .ok (.bipush 99, 2) := by decide +kernel
theorem dX8_lashBy_26 : decode cX8_lashBy 26 = .ok (.goto 14, 3) := by decide +kernel
theorem dX8_lashBy_29 : decode cX8_lashBy 29 = .ok (.aload_n 0, 1) := by decide +kernel
theorem dX8_lashBy_30 : decode cX8_lashBy 30 = .ok (.getfield 19, 3) := by decide +kernel
theorem dX8_lashBy_33 : decode cX8_lashBy 33 = .ok (.bipush 21, 2) := by decide +kernel
theorem dX8_lashBy_35 : decode cX8_lashBy 35 = .ok (.iload_n 1, 1) := by decide +kernel
theorem dX8_lashBy_36 : decode cX8_lashBy 36 = .ok (.iadd, 1) := by decide +kernel
theorem dX8_lashBy_37 : decode cX8_lashBy 37 = .ok (.iaload, 1) := by decide +kernel
theorem dX8_lashBy_38 : decode cX8_lashBy 38 = .ok (.iload_n 2, 1) := by decide +kernel
theorem dX8_lashBy_39 : decode cX8_lashBy 39 = .ok (.iadd, 1) := by decide +kernel
theorem dX8_lashBy_40 : decode cX8_lashBy 40 = .ok (.iastore, 1) := by decide +kernel
theorem dX8_lashBy_41 : decode cX8_lashBy 41 = .ok (.return_, 1) := by decide +kernel
theorem dX8_spinOf_0 : decode cX8_spinOf 0 = .ok (.iconst 0, 1) := by decide +kernel
theorem dX8_spinOf_1 : decode cX8_spinOf 1 = .ok (.istore_n 3, 1) := by decide +kernel
theorem dX8_spinOf_2 : decode cX8_spinOf 2 = .ok (.iload_n 1, 1) := by decide +kernel
theorem dX8_spinOf_3 : decode cX8_spinOf 3 = .ok (.istore 4, 2) := by decide +kernel
theorem dX8_spinOf_5 : decode cX8_spinOf 5 = .ok (.iload 4, 2) := by decide +kernel
theorem dX8_spinOf_7 : decode cX8_spinOf 7 = .ok (.aload_n 0, 1) := by decide +kernel
theorem dX8_spinOf_8 : decode cX8_spinOf 8 = .ok (.getfield 19, 3) := by decide +kernel
theorem dX8_spinOf_11 : decode cX8_spinOf 11 = .ok (.iconst 0, 1) := by decide +kernel
theorem dX8_spinOf_12 : decode cX8_spinOf 12 = .ok (.iaload, 1) := by decide +kernel
theorem dX8_spinOf_13 : decode cX8_spinOf 13 = .ok (.if_icmp .ge 25, 3) := by decide +kernel
theorem dX8_spinOf_16 : decode cX8_spinOf 16 = .ok (.iload_n 3, 1) := by decide +kernel
theorem dX8_spinOf_17 : decode cX8_spinOf 17 = .ok (.aload_n 0, 1) := by decide +kernel
theorem dX8_spinOf_18 : decode cX8_spinOf 18 = .ok (.getfield 19, 3) := by decide +kernel
theorem dX8_spinOf_21 : decode cX8_spinOf 21 = .ok (.bipush 21, 2) := by decide +kernel
theorem dX8_spinOf_23 : decode cX8_spinOf 23 = .ok (.iload 4, 2) := by decide +kernel
theorem dX8_spinOf_25 : decode cX8_spinOf 25 = .ok (.iadd, 1) := by decide +kernel
theorem dX8_spinOf_26 : decode cX8_spinOf 26 = .ok (.iaload, 1) := by decide +kernel
theorem dX8_spinOf_27 : decode cX8_spinOf 27 = .ok (.iadd, 1) := by decide +kernel
theorem dX8_spinOf_28 : decode cX8_spinOf 28 = .ok (.istore_n 3, 1) := by decide +kernel
theorem dX8_spinOf_29 : decode cX8_spinOf 29 = .ok (.iload 4, 2) := by decide +kernel
theorem dX8_spinOf_31 : decode cX8_spinOf 31 = .ok (.iload_n 2, 1) := by decide +kernel
theorem dX8_spinOf_32 : decode cX8_spinOf 32 = .ok (.iadd, 1) := by decide +kernel
theorem dX8_spinOf_33 : decode cX8_spinOf 33 = .ok (.istore 4, 2) := by decide +kernel
theorem dX8_spinOf_35 : decode cX8_spinOf 35 = .ok (.goto (-30), 3) := by decide +kernel
theorem dX8_spinOf_38 : decode cX8_spinOf 38 = .ok (.iload_n 3, 1) := by decide +kernel
theorem dX8_spinOf_39 : decode cX8_spinOf 39 = .ok (.ireturn, 1) := by decide +kernel
theorem dX8_note_0 : decode cX8_note 0 = .ok (.aload_n 0, 1) := by decide +kernel
theorem dX8_note_1 : decode cX8_note 1 = .ok (.getfield 139, 3) := by decide +kernel
theorem dX8_note_4 : decode cX8_note 4 = .ok (.bipush 24, 2) := by decide +kernel
theorem dX8_note_6 : decode cX8_note 6 = .ok (.if_icmp .ne 43, 3) := by decide +kernel
theorem dX8_note_9 : decode cX8_note 9 = .ok (.iconst 0, 1) := by decide +kernel
theorem dX8_note_10 : decode cX8_note 10 = .ok (.istore_n 1, 1) := by decide +kernel
theorem dX8_note_11 : decode cX8_note 11 = .ok (.iload_n 1, 1) := by decide +kernel
theorem dX8_note_12 : decode cX8_note 12 = .ok (.sipush 667, 3) := by decide +kernel
theorem dX8_note_15 : decode cX8_note 15 = .ok (.if_icmp .ge 24, 3) := by decide +kernel
theorem dX8_note_18 : decode cX8_note 18 = .ok (.aload_n 0, 1) := by decide +kernel
theorem dX8_note_19 : decode cX8_note 19 = .ok (.getfield 31, 3) := by decide +kernel
theorem dX8_note_22 : decode cX8_note 22 = .ok (.iload_n 1, 1) := by decide +kernel
theorem dX8_note_23 : decode cX8_note 23 = .ok (.aload_n 0, 1) := by decide +kernel
theorem dX8_note_24 : decode cX8_note 24 = .ok (.getfield 31, 3) := by decide +kernel
theorem dX8_note_27 : decode cX8_note 27 = .ok (.iload_n 1, 1) := by decide +kernel
theorem dX8_note_28 : decode cX8_note 28 = .ok (.bipush 29, 2) := by decide +kernel
theorem dX8_note_30 : decode cX8_note 30 = .ok (.iadd, 1) := by decide +kernel
theorem dX8_note_31 : decode cX8_note 31 = .ok (.iaload, 1) := by decide +kernel
theorem dX8_note_32 : decode cX8_note 32 = .ok (.iastore, 1) := by decide +kernel
theorem dX8_note_33 : decode cX8_note 33 = .ok (.iinc 1 1, 3) := by decide +kernel
theorem dX8_note_36 : decode cX8_note 36 = .ok (.goto (-25), 3) := by decide +kernel
theorem dX8_note_39 : decode cX8_note 39 = .ok (.aload_n 0, 1) := by decide +kernel
theorem dX8_note_40 : decode cX8_note 40 = .ok (.dup, 1) := by decide +kernel
theorem dX8_note_41 : decode cX8_note 41 = .ok (.getfield 139, 3) := by decide +kernel
theorem dX8_note_44 : decode cX8_note 44 = .ok (.iconst 1, 1) := by decide +kernel
theorem dX8_note_45 : decode cX8_note 45 = .ok (.isub, 1) := by decide +kernel
theorem dX8_note_46 : decode cX8_note 46 = .ok (.putfield 139, 3) := by decide +kernel
theorem dX8_note_49 : decode cX8_note 49 = .ok (.iconst 0, 1) := by decide +kernel
theorem dX8_note_50 : decode cX8_note 50 = .ok (.istore_n 1, 1) := by decide +kernel
theorem dX8_note_51 : decode cX8_note 51 = .ok (.iload_n 1, 1) := by decide +kernel
theorem dX8_note_52 : decode cX8_note 52 = .ok (.bipush 29, 2) := by decide +kernel
theorem dX8_note_54 : decode cX8_note 54 = .ok (.if_icmp .ge 29, 3) := by decide +kernel
theorem dX8_note_57 : decode cX8_note 57 = .ok (.aload_n 0, 1) := by decide +kernel
theorem dX8_note_58 : decode cX8_note 58 = .ok (.getfield 31, 3) := by decide +kernel
theorem dX8_note_61 : decode cX8_note 61 = .ok (.bipush 29, 2) := by decide +kernel
theorem dX8_note_63 : decode cX8_note 63 = .ok (.aload_n 0, 1) := by decide +kernel
theorem dX8_note_64 : decode cX8_note 64 = .ok (.getfield 139, 3) := by decide +kernel
theorem dX8_note_67 : decode cX8_note 67 = .ok (.imul, 1) := by decide +kernel
theorem dX8_note_68 : decode cX8_note 68 = .ok (.iload_n 1, 1) := by decide +kernel
theorem dX8_note_69 : decode cX8_note 69 = .ok (.iadd, 1) := by decide +kernel
theorem dX8_note_70 : decode cX8_note 70 = .ok (.aload_n 0, 1) := by decide +kernel
theorem dX8_note_71 : decode cX8_note 71 = .ok (.getfield 19, 3) := by decide +kernel
theorem dX8_note_74 : decode cX8_note 74 = .ok (.iload_n 1, 1) := by decide +kernel
theorem dX8_note_75 : decode cX8_note 75 = .ok (.iaload, 1) := by decide +kernel
theorem dX8_note_76 : decode cX8_note 76 = .ok (.iastore, 1) := by decide +kernel
theorem dX8_note_77 : decode cX8_note 77 = .ok (.iinc 1 1, 3) := by decide +kernel
theorem dX8_note_80 : decode cX8_note 80 = .ok (.goto (-29), 3) := by decide +kernel
theorem dX8_note_83 : decode cX8_note 83 = .ok (.aload_n 0, 1) := by decide +kernel
theorem dX8_note_84 : decode cX8_note 84 = .ok (.dup, 1) := by decide +kernel
theorem dX8_note_85 : decode cX8_note 85 = .ok (.getfield 139, 3) := by decide +kernel
theorem dX8_note_88 : decode cX8_note 88 = .ok (.iconst 1, 1) := by decide +kernel
theorem dX8_note_89 : decode cX8_note 89 = .ok (.iadd, 1) := by decide +kernel
theorem dX8_note_90 : decode cX8_note 90 = .ok (.putfield 139, 3) := by decide +kernel
theorem dX8_note_93 : decode cX8_note 93 = .ok (.return_, 1) := by decide +kernel
theorem dX8_undo_0 : decode cX8_undo 0 = .ok (.aload_n 0, 1) := by decide +kernel
theorem dX8_undo_1 : decode cX8_undo 1 = .ok (.getfield 139, 3) := by decide +kernel
theorem dX8_undo_4 : decode cX8_undo 4 = .ok (.ifCond .ne 6, 3) := by decide +kernel
theorem dX8_undo_7 : decode cX8_undo 7 = .ok (.ldc 166, 2) := by decide +kernel
theorem dX8_undo_9 : decode cX8_undo 9 = .ok (.ireturn, 1) := by decide +kernel
theorem dX8_undo_10 : decode cX8_undo 10 = .ok (.aload_n 0, 1) := by decide +kernel
theorem dX8_undo_11 : decode cX8_undo 11 = .ok (.dup, 1) := by decide +kernel
theorem dX8_undo_12 : decode cX8_undo 12 = .ok (.getfield 139, 3) := by decide +kernel
theorem dX8_undo_15 : decode cX8_undo 15 = .ok (.iconst 1, 1) := by decide +kernel
theorem dX8_undo_16 : decode cX8_undo 16 = .ok (.isub, 1) := by decide +kernel
theorem dX8_undo_17 : decode cX8_undo 17 = .ok (.putfield 139, 3) := by decide +kernel
theorem dX8_undo_20 : decode cX8_undo 20 = .ok (.iconst 0, 1) := by decide +kernel
theorem dX8_undo_21 : decode cX8_undo 21 = .ok (.istore_n 1, 1) := by decide +kernel
theorem dX8_undo_22 : decode cX8_undo 22 = .ok (.iload_n 1, 1) := by decide +kernel
theorem dX8_undo_23 : decode cX8_undo 23 = .ok (.bipush 29, 2) := by decide +kernel
theorem dX8_undo_25 : decode cX8_undo 25 = .ok (.if_icmp .ge 29, 3) := by decide +kernel
theorem dX8_undo_28 : decode cX8_undo 28 = .ok (.aload_n 0, 1) := by decide +kernel
theorem dX8_undo_29 : decode cX8_undo 29 = .ok (.getfield 19, 3) := by decide +kernel
theorem dX8_undo_32 : decode cX8_undo 32 = .ok (.iload_n 1, 1) := by decide +kernel
theorem dX8_undo_33 : decode cX8_undo 33 = .ok (.aload_n 0, 1) := by decide +kernel
theorem dX8_undo_34 : decode cX8_undo 34 = .ok (.getfield 31, 3) := by decide +kernel
theorem dX8_undo_37 : decode cX8_undo 37 = .ok (.bipush 29, 2) := by decide +kernel
theorem dX8_undo_39 : decode cX8_undo 39 = .ok (.aload_n 0, 1) := by decide +kernel
theorem dX8_undo_40 : decode cX8_undo 40 = .ok (.getfield 139, 3) := by decide +kernel
theorem dX8_undo_43 : decode cX8_undo 43 = .ok (.imul, 1) := by decide +kernel
theorem dX8_undo_44 : decode cX8_undo 44 = .ok (.iload_n 1, 1) := by decide +kernel
theorem dX8_undo_45 : decode cX8_undo 45 = .ok (.iadd, 1) := by decide +kernel
theorem dX8_undo_46 : decode cX8_undo 46 = .ok (.iaload, 1) := by decide +kernel
theorem dX8_undo_47 : decode cX8_undo 47 = .ok (.iastore, 1) := by decide +kernel
theorem dX8_undo_48 : decode cX8_undo 48 = .ok (.iinc 1 1, 3) := by decide +kernel
theorem dX8_undo_51 : decode cX8_undo 51 = .ok (.goto (-29), 3) := by decide +kernel
theorem dX8_undo_54 : decode cX8_undo 54 = .ok (.aload_n 0, 1) := by decide +kernel
theorem dX8_undo_55 : decode cX8_undo 55 = .ok (.getfield 139, 3) := by decide +kernel
theorem dX8_undo_58 : decode cX8_undo 58 = .ok (.ireturn, 1) := by decide +kernel
theorem dX8_hours_0 : decode cX8_hours 0 = .ok (.aload_n 0, 1) := by decide +kernel
theorem dX8_hours_1 : decode cX8_hours 1 = .ok (.getfield 135, 3) := by decide +kernel
theorem dX8_hours_4 : decode cX8_hours 4 = .ok (.ifCond .ne 6, 3) := by decide +kernel
theorem dX8_hours_7 : decode cX8_hours 7 = .ok (.ldc 166, 2) := by decide +kernel
theorem dX8_hours_9 : decode cX8_hours 9 = .ok (.ireturn, 1) := by decide +kernel
theorem dX8_hours_10 : decode cX8_hours 10 = .ok (.iload_n 1, 1) := by decide +kernel
theorem dX8_hours_11 : decode cX8_hours 11 = .ok (.i2l, 1) := by decide +kernel
theorem dX8_hours_12 : decode cX8_hours 12 = .ok (.lconst 1, 1) := by decide +kernel
theorem dX8_hours_13 : decode cX8_hours 13 = .ok (.ldc2_w 167, 3) := by decide +kernel
theorem dX8_hours_16 : decode cX8_hours 16 = .ok (.invokestatic 57, 3) := by decide +kernel
theorem dX8_hours_19 : decode cX8_hours 19 = .ok (.ifCond .ne 6, 3) := by decide +kernel
theorem dX8_hours_22 : decode cX8_hours 22 = .ok (.ldc 67, 2) := by decide +kernel
theorem dX8_hours_24 : decode cX8_hours 24 = .ok (.ireturn, 1) := by decide +kernel
theorem dX8_hours_25 : decode cX8_hours 25 = .ok (.aload_n 0, 1) := by decide +kernel
theorem dX8_hours_26 : decode cX8_hours 26 = .ok (.getfield 19, 3) := by decide +kernel
theorem dX8_hours_29 : decode cX8_hours 29 = .ok (.iconst 3, 1) := by decide +kernel
theorem dX8_hours_30 : decode cX8_hours 30 = .ok (.iaload, 1) := by decide +kernel
theorem dX8_hours_31 : decode cX8_hours 31 = .ok (.iload_n 1, 1) := by decide +kernel
theorem dX8_hours_32 : decode cX8_hours 32 = .ok (.iadd, 1) := by decide +kernel
theorem dX8_hours_33 : decode cX8_hours 33 = .ok (.sipush 999, 3) := by decide +kernel
theorem dX8_hours_36 : decode cX8_hours 36 = .ok (.if_icmp .le 6, 3) := by decide +kernel
theorem dX8_hours_39 : decode cX8_hours 39 = .ok (.ldc 84, 2) := by decide +kernel
theorem dX8_hours_41 : decode cX8_hours 41 = .ok (.ireturn, 1) := by decide +kernel
theorem dX8_hours_42 : decode cX8_hours 42 = .ok (.iconst 0, 1) := by decide +kernel
theorem dX8_hours_43 : decode cX8_hours 43 = .ok (.istore_n 2, 1) := by decide +kernel
theorem dX8_hours_44 : decode cX8_hours 44 = .ok (.iload_n 2, 1) := by decide +kernel
theorem dX8_hours_45 : decode cX8_hours 45 = .ok (.iload_n 1, 1) := by decide +kernel
theorem dX8_hours_46 : decode cX8_hours 46 = .ok (.if_icmp .ge 17, 3) := by decide +kernel
theorem dX8_hours_49 : decode cX8_hours 49 = .ok (.aload_n 0, 1) := by decide +kernel
theorem dX8_hours_50 : decode cX8_hours 50 = .ok (.invokevirtual 169, 3) := by decide +kernel
theorem dX8_hours_53 : decode cX8_hours 53 = .ok (.aload_n 0, 1) := by decide +kernel
theorem dX8_hours_54 : decode cX8_hours 54 = .ok (.invokevirtual 172, 3) := by decide +kernel
theorem dX8_hours_57 : decode cX8_hours 57 = .ok (.iinc 2 1, 3) := by decide +kernel
theorem dX8_hours_60 : decode cX8_hours 60 = .ok (.goto (-16), 3) := by decide +kernel
theorem dX8_hours_63 : decode cX8_hours 63 = .ok (.aload_n 0, 1) := by decide +kernel
theorem dX8_hours_64 : decode cX8_hours 64 = .ok (.invokevirtual 155, 3) := by decide +kernel
theorem dX8_hours_67 : decode cX8_hours 67 = .ok (.ireturn, 1) := by decide +kernel
theorem dX8_lash_0 : decode cX8_lash 0 = .ok (.aload_n 0, 1) := by decide +kernel
theorem dX8_lash_1 : decode cX8_lash 1 = .ok (.iload_n 1, 1) := by decide +kernel
theorem dX8_lash_2 : decode cX8_lash 2 = .ok (.invokevirtual 175, 3) := by decide +kernel
theorem dX8_lash_5 : decode cX8_lash 5 = .ok (.ifCond .ne 6, 3) := by decide +kernel
theorem dX8_lash_8 : decode cX8_lash 8 = .ok (.ldc 67, 2) := by decide +kernel
theorem dX8_lash_10 : decode cX8_lash 10 = .ok (.ireturn, 1) := by decide +kernel
theorem dX8_lash_11 : decode cX8_lash 11 = .ok (.aload_n 0, 1) := by decide +kernel
theorem dX8_lash_12 : decode cX8_lash 12 = .ok (.iload_n 1, 1) := by decide +kernel
theorem dX8_lash_13 : decode cX8_lash 13 = .ok (.invokevirtual 142, 3) := by decide +kernel
theorem dX8_lash_16 : decode cX8_lash 16 = .ok (.ifCond .ne 6, 3) := by decide +kernel
theorem dX8_lash_19 : decode cX8_lash 19 = .ok (.ldc 166, 2) := by decide +kernel
theorem dX8_lash_21 : decode cX8_lash 21 = .ok (.ireturn, 1) := by decide +kernel
theorem dX8_lash_22 : decode cX8_lash 22 = .ok (.aload_n 0, 1) := by decide +kernel
theorem dX8_lash_23 : decode cX8_lash 23 = .ok (.invokevirtual 169, 3) := by decide +kernel
theorem dX8_lash_26 : decode cX8_lash 26 = .ok (.aload_n 0, 1) := by decide +kernel
theorem dX8_lash_27 : decode cX8_lash 27 = .ok (.iload_n 1, 1) := by decide +kernel
theorem dX8_lash_28 : decode cX8_lash 28 = .ok (.aload_n 0, 1) := by decide +kernel
theorem dX8_lash_29 : decode cX8_lash 29 = .ok (.getfield 19, 3) := by decide +kernel
theorem dX8_lash_32 : decode cX8_lash 32 = .ok (.iconst 1, 1) := by decide +kernel
theorem dX8_lash_33 : decode cX8_lash 33 = .ok (.iaload, 1) := by decide +kernel
theorem dX8_lash_34 : decode cX8_lash 34 = .ok (.invokevirtual 178, 3) := by decide +kernel
theorem dX8_lash_37 : decode cX8_lash 37 = .ok (.aload_n 0, 1) := by decide +kernel
theorem dX8_lash_38 : decode cX8_lash 38 = .ok (.getfield 19, 3) := by decide +kernel
theorem dX8_lash_41 : decode cX8_lash 41 = .ok (.bipush 21, 2) := by decide +kernel
theorem dX8_lash_43 : decode cX8_lash 43 = .ok (.iload_n 1, 1) := by decide +kernel
theorem dX8_lash_44 : decode cX8_lash 44 = .ok (.iadd, 1) := by decide +kernel
theorem dX8_lash_45 : decode cX8_lash 45 = .ok (.iaload, 1) := by decide +kernel
theorem dX8_lash_46 : decode cX8_lash 46 = .ok (.ireturn, 1) := by decide +kernel
theorem dX8_touch_0 : decode cX8_touch 0 = .ok (.iload_n 1, 1) := by decide +kernel
theorem dX8_touch_1 : decode cX8_touch 1 = .ok (.i2l, 1) := by decide +kernel
theorem dX8_touch_2 : decode cX8_touch 2 = .ok (.lconst 0, 1) := by decide +kernel
theorem dX8_touch_3 : decode cX8_touch 3 = .ok (.aload_n 0, 1) := by decide +kernel
theorem dX8_touch_4 : decode cX8_touch 4 = .ok (.getfield 19, 3) := by decide +kernel
theorem dX8_touch_7 : decode cX8_touch 7 = .ok (.iconst 0, 1) := by decide +kernel
theorem dX8_touch_8 : decode cX8_touch 8 = .ok (.iaload, 1) := by decide +kernel
theorem dX8_touch_9 : decode cX8_touch 9 = .ok (.iconst 2, 1) := by decide +kernel
theorem dX8_touch_10 : decode cX8_touch 10 = .ok (.isub, 1) := by decide +kernel
theorem dX8_touch_11 : decode cX8_touch 11 = .ok (.i2l, 1) := by decide +kernel
theorem dX8_touch_12 : decode cX8_touch 12 = .ok (.invokestatic 57, 3) := by decide +kernel
theorem dX8_touch_15 : decode cX8_touch 15 = .ok (.ifCond .eq 13, 3) := by decide +kernel
theorem dX8_touch_18 : decode cX8_touch 18 = .ok (.iload_n 2, 1) := by decide +kernel
theorem dX8_touch_19 : decode cX8_touch 19 = .ok (.i2l, 1) := by decide +kernel
theorem dX8_touch_20 : decode cX8_touch 20 = .ok (.lconst 0, 1) := by decide +kernel
theorem dX8_touch_21 : decode cX8_touch 21 = .ok (.lconst 1, 1) := by decide +kernel
theorem dX8_touch_22 : decode cX8_touch 22 = .ok (.invokestatic 57, 3) := by decide +kernel
theorem dX8_touch_25 : decode cX8_touch 25 = .ok (.ifCond .ne 6, 3) := by decide +kernel
theorem dX8_touch_28 : decode cX8_touch 28 = .ok (.ldc 67, 2) := by decide +kernel
theorem dX8_touch_30 : decode cX8_touch 30 = .ok (.ireturn, 1) := by decide +kernel
theorem dX8_touch_31 : decode cX8_touch 31 = .ok (.aload_n 0, 1) := by decide +kernel
theorem dX8_touch_32 : decode cX8_touch 32 = .ok (.getfield 19, 3) := by decide +kernel
theorem dX8_touch_35 : decode cX8_touch 35 = .ok (.iconst 4, 1) := by decide +kernel
theorem dX8_touch_36 : decode cX8_touch 36 = .ok (.iaload, 1) := by decide +kernel
theorem dX8_touch_37 : decode cX8_touch 37 = .ok (.iload_n 1, 1) := by decide +kernel
theorem dX8_touch_38 : decode cX8_touch 38 = .ok (.invokestatic 145, 3) := by decide +kernel
theorem dX8_touch_41 : decode cX8_touch 41 = .ok (.iload_n 2, 1) := by decide +kernel
theorem dX8_touch_42 : decode cX8_touch 42 = .ok (.iconst 1, 1) := by decide +kernel
theorem dX8_touch_43 : decode cX8_touch 43 = .ok (.if_icmp .ne 7, 3) := by decide +kernel
theorem dX8_touch_46 : decode cX8_touch 46 = .ok (.iconst 1, 1) := by decide +kernel
theorem dX8_touch_47 : decode cX8_touch 47 = .ok (.goto 4, 3) := by decide +kernel
theorem dX8_touch_50 : decode cX8_touch 50 = .ok (.iconst 0, 1) := by decide +kernel
theorem dX8_touch_51 : decode cX8_touch 51 = .ok (.if_icmp .ne 6, 3) := by decide +kernel
theorem dX8_touch_54 : decode cX8_touch 54 = .ok (.ldc 166, 2) := by decide +kernel
theorem dX8_touch_56 : decode cX8_touch 56 = .ok (.ireturn, 1) := by decide +kernel
theorem dX8_touch_57 : decode cX8_touch 57 = .ok (.aload_n 0, 1) := by decide +kernel
theorem dX8_touch_58 : decode cX8_touch 58 = .ok (.invokevirtual 169, 3) := by decide +kernel
theorem dX8_touch_61 : decode cX8_touch 61 = .ok (.aload_n 0, 1) := by decide +kernel
theorem dX8_touch_62 : decode cX8_touch 62 = .ok (.getfield 19, 3) := by decide +kernel
theorem dX8_touch_65 : decode cX8_touch 65 = .ok (.iconst 4, 1) := by decide +kernel
theorem dX8_touch_66 : decode cX8_touch 66 = .ok (.dup2, 1) := by decide +kernel
theorem dX8_touch_67 : decode cX8_touch 67 = .ok (.iaload, 1) := by decide +kernel
theorem dX8_touch_68 : decode cX8_touch 68 = .ok (.iconst 1, 1) := by decide +kernel
theorem dX8_touch_69 : decode cX8_touch 69 = .ok (.iload_n 1, 1) := by decide +kernel
theorem dX8_touch_70 : decode cX8_touch 70 = .ok (.ishl, 1) := by decide +kernel
theorem dX8_touch_71 : decode cX8_touch 71 = .ok (.ixor, 1) := by decide +kernel
theorem dX8_touch_72 : decode cX8_touch 72 = .ok (.iastore, 1) := by decide +kernel
theorem dX8_touch_73 : decode cX8_touch 73 = .ok (.aload_n 0, 1) := by decide +kernel
theorem dX8_touch_74 : decode cX8_touch 74 = .ok (.getfield 19, 3) := by decide +kernel
theorem dX8_touch_77 : decode cX8_touch 77 = .ok (.iconst 4, 1) := by decide +kernel
theorem dX8_touch_78 : decode cX8_touch 78 = .ok (.iaload, 1) := by decide +kernel
theorem dX8_touch_79 : decode cX8_touch 79 = .ok (.ireturn, 1) := by decide +kernel
theorem dX8_putUp_0 : decode cX8_putUp 0 = .ok (.aload_n 0, 1) := by decide +kernel
theorem dX8_putUp_1 : decode cX8_putUp 1 = .ok (.iload_n 1, 1) := by decide +kernel
theorem dX8_putUp_2 : decode cX8_putUp 2 = .ok (.invokevirtual 175, 3) := by decide +kernel
theorem dX8_putUp_5 : decode cX8_putUp 5 = .ok (.ifCond .ne 6, 3) := by decide +kernel
theorem dX8_putUp_8 : decode cX8_putUp 8 = .ok (.ldc 67, 2) := by decide +kernel
theorem dX8_putUp_10 : decode cX8_putUp 10 = .ok (.ireturn, 1) := by decide +kernel
theorem dX8_putUp_11 : decode cX8_putUp 11 = .ok (.aload_n 0, 1) := by decide +kernel
theorem dX8_putUp_12 : decode cX8_putUp 12 = .ok (.iload_n 1, 1) := by decide +kernel
theorem dX8_putUp_13 : decode cX8_putUp 13 = .ok (.invokevirtual 142, 3) := by decide +kernel
theorem dX8_putUp_16 : decode cX8_putUp 16 = .ok (.ifCond .eq 6, 3) := by decide +kernel
theorem dX8_putUp_19 : decode cX8_putUp 19 = .ok (.ldc 166, 2) := by decide +kernel
theorem dX8_putUp_21 : decode cX8_putUp 21 = .ok (.ireturn, 1) := by decide +kernel
theorem dX8_putUp_22 : decode cX8_putUp 22 = .ok (.aload_n 0, 1) := by decide +kernel
theorem dX8_putUp_23 : decode cX8_putUp 23 = .ok (.invokevirtual 169, 3) := by decide +kernel
theorem dX8_putUp_26 : decode cX8_putUp 26 = .ok (.aload_n 0, 1) := by decide +kernel
theorem dX8_putUp_27 : decode cX8_putUp 27 = .ok (.getfield 19, 3) := by decide +kernel
theorem dX8_putUp_30 : decode cX8_putUp 30 = .ok (.bipush 21, 2) := by decide +kernel
theorem dX8_putUp_32 : decode cX8_putUp 32 = .ok (.iload_n 1, 1) := by decide +kernel
theorem dX8_putUp_33 : decode cX8_putUp 33 = .ok (.iadd, 1) := by decide +kernel
theorem dX8_putUp_34 : decode cX8_putUp 34 = .ok (.bipush 50, 2) := by decide +kernel
theorem dX8_putUp_36 : decode cX8_putUp 36 = .ok (.iastore, 1) := by decide +kernel
theorem dX8_putUp_37 : decode cX8_putUp 37 = .ok (.aload_n 0, 1) := by decide +kernel
theorem dX8_putUp_38 : decode cX8_putUp 38 = .ok (.invokevirtual 155, 3) := by decide +kernel
theorem dX8_putUp_41 : decode cX8_putUp 41 = .ok (.ireturn, 1) := by decide +kernel
theorem dX8_house_0 : decode cX8_house 0 = .ok (.aload_n 0, 1) := by decide +kernel
theorem dX8_house_1 : decode cX8_house 1 = .ok (.iload_n 1, 1) := by decide +kernel
theorem dX8_house_2 : decode cX8_house 2 = .ok (.invokevirtual 175, 3) := by decide +kernel
theorem dX8_house_5 : decode cX8_house 5 = .ok (.ifCond .ne 6, 3) := by decide +kernel
theorem dX8_house_8 : decode cX8_house 8 = .ok (.ldc 67, 2) := by decide +kernel
theorem dX8_house_10 : decode cX8_house 10 = .ok (.ireturn, 1) := by decide +kernel
theorem dX8_house_11 : decode cX8_house 11 = .ok (.iload_n 2, 1) := by decide +kernel
theorem dX8_house_12 : decode cX8_house 12 = .ok (.tableswitch 100 0 5 #[40, 50, 60, 74, 88, 94], 40) := by decide +kernel
theorem dX8_house_52 : decode cX8_house 52 = .ok (.aload_n 0, 1) := by decide +kernel
theorem dX8_house_53 : decode cX8_house 53 = .ok (.getfield 19, 3) := by decide +kernel
theorem dX8_house_56 : decode cX8_house 56 = .ok (.bipush 21, 2) := by decide +kernel
theorem dX8_house_58 : decode cX8_house 58 = .ok (.iload_n 1, 1) := by decide +kernel
theorem dX8_house_59 : decode cX8_house 59 = .ok (.iadd, 1) := by decide +kernel
theorem dX8_house_60 : decode cX8_house 60 = .ok (.iaload, 1) := by decide +kernel
theorem dX8_house_61 : decode cX8_house 61 = .ok (.ireturn, 1) := by decide +kernel
theorem dX8_house_62 : decode cX8_house 62 = .ok (.aload_n 0, 1) := by decide +kernel
theorem dX8_house_63 : decode cX8_house 63 = .ok (.getfield 19, 3) := by decide +kernel
theorem dX8_house_66 : decode cX8_house 66 = .ok (.bipush 13, 2) := by decide +kernel
theorem dX8_house_68 : decode cX8_house 68 = .ok (.iload_n 1, 1) := by decide +kernel
theorem dX8_house_69 : decode cX8_house 69 = .ok (.iadd, 1) := by decide +kernel
theorem dX8_house_70 : decode cX8_house 70 = .ok (.iaload, 1) := by decide +kernel
theorem dX8_house_71 : decode cX8_house 71 = .ok (.ireturn, 1) := by decide +kernel
theorem dX8_house_72 : decode cX8_house 72 = .ok (.aload_n 0, 1) := by decide +kernel
theorem dX8_house_73 : decode cX8_house 73 = .ok (.iload_n 1, 1) := by decide +kernel
theorem dX8_house_74 : decode cX8_house 74 = .ok (.invokevirtual 142, 3) := by decide +kernel
theorem dX8_house_77 : decode cX8_house 77 = .ok (.ifCond .eq 7, 3) := by decide +kernel
theorem dX8_house_80 : decode cX8_house 80 = .ok (.iconst 0, 1) := by decide +kernel
theorem dX8_house_81 : decode cX8_house 81 = .ok (.goto 4, 3) := by decide +kernel
theorem dX8_house_84 : decode cX8_house 84 = .ok (.iconst 1, 1) := by decide +kernel
theorem dX8_house_85 : decode cX8_house 85 = .ok (.ireturn, 1) := by decide +kernel
theorem dX8_house_86 : decode cX8_house 86 = .ok (.aload_n 0, 1) := by decide +kernel
theorem dX8_house_87 : decode cX8_house 87 = .ok (.iload_n 1, 1) := by decide +kernel
theorem dX8_house_88 : decode cX8_house 88 = .ok (.invokevirtual 149, 3) := by decide +kernel
theorem dX8_house_91 : decode cX8_house 91 = .ok (.ifCond .eq 7, 3) := by decide +kernel
theorem dX8_house_94 : decode cX8_house 94 = .ok (.iconst 1, 1) := by decide +kernel
theorem dX8_house_95 : decode cX8_house 95 = .ok (.goto 4, 3) := by decide +kernel
theorem dX8_house_98 : decode cX8_house 98 = .ok (.iconst 0, 1) := by decide +kernel
theorem dX8_house_99 : decode cX8_house 99 = .ok (.ireturn, 1) := by decide +kernel
theorem dX8_house_100 : decode cX8_house 100 = .ok (.aload_n 0, 1) := by decide +kernel
theorem dX8_house_101 : decode cX8_house 101 = .ok (.iload_n 1, 1) := by decide +kernel
theorem dX8_house_102 : decode cX8_house 102 = .ok (.invokevirtual 159, 3) := by decide +kernel
theorem dX8_house_105 : decode cX8_house 105 = .ok (.ireturn, 1) := by decide +kernel
theorem dX8_house_106 : decode cX8_house 106 = .ok (.aload_n 0, 1) := by decide +kernel
theorem dX8_house_107 : decode cX8_house 107 = .ok (.iload_n 1, 1) := by decide +kernel
theorem dX8_house_108 : decode cX8_house 108 = .ok (.invokevirtual 152, 3) := by decide +kernel
theorem dX8_house_111 : decode cX8_house 111 = .ok (.ireturn, 1) := by decide +kernel
theorem dX8_house_112 : decode cX8_house 112 = .ok (.ldc 67, 2) := by decide +kernel
theorem dX8_house_114 : decode cX8_house 114 = .ok (.ireturn, 1) := by decide +kernel
theorem dX8_leaning_0 : decode cX8_leaning 0 = .ok (.iconst 0, 1) := by decide +kernel
theorem dX8_leaning_1 : decode cX8_leaning 1 = .ok (.istore_n 1, 1) := by decide +kernel
theorem dX8_leaning_2 : decode cX8_leaning 2 = .ok (.iconst 0, 1) := by decide +kernel
theorem dX8_leaning_3 : decode cX8_leaning 3 = .ok (.istore_n 2, 1) := by decide +kernel
theorem dX8_leaning_4 : decode cX8_leaning 4 = .ok (.iload_n 2, 1) := by decide +kernel
theorem dX8_leaning_5 : decode cX8_leaning 5 = .ok (.aload_n 0, 1) := by decide +kernel
theorem dX8_leaning_6 : decode cX8_leaning 6 = .ok (.getfield 19, 3) := by decide +kernel
theorem dX8_leaning_9 : decode cX8_leaning 9 = .ok (.iconst 0, 1) := by decide +kernel
theorem dX8_leaning_10 : decode cX8_leaning 10 = .ok (.iaload, 1) := by decide +kernel
theorem dX8_leaning_11 : decode cX8_leaning 11 = .ok (.if_icmp .ge 27, 3) := by decide +kernel
theorem dX8_leaning_14 : decode cX8_leaning 14 = .ok (.iload_n 1, 1) := by decide +kernel
theorem dX8_leaning_15 : decode cX8_leaning 15 = .ok (.aload_n 0, 1) := by decide +kernel
theorem dX8_leaning_16 : decode cX8_leaning 16 = .ok (.iload_n 2, 1) := by decide +kernel
theorem dX8_leaning_17 : decode cX8_leaning 17 = .ok (.invokevirtual 149, 3) := by decide +kernel
theorem dX8_leaning_20 : decode cX8_leaning 20 = .ok (.ifCond .eq 9, 3) := by decide +kernel
theorem dX8_leaning_23 : decode cX8_leaning 23 = .ok (.iconst 1, 1) := by decide +kernel
theorem dX8_leaning_24 : decode cX8_leaning 24 = .ok (.iload_n 2, 1) := by decide +kernel
theorem dX8_leaning_25 : decode cX8_leaning 25 = .ok (.ishl, 1) := by decide +kernel
theorem dX8_leaning_26 : decode cX8_leaning 26 = .ok (.goto 4, 3) := by decide +kernel
theorem dX8_leaning_29 : decode cX8_leaning 29 = .ok (.iconst 0, 1) := by decide +kernel
theorem dX8_leaning_30 : decode cX8_leaning 30 = .ok (.ior, 1) := by decide +kernel
theorem dX8_leaning_31 : decode cX8_leaning 31 = .ok (.istore_n 1, 1) := by decide +kernel
theorem dX8_leaning_32 : decode cX8_leaning 32 = .ok (.iinc 2 1, 3) := by decide +kernel
theorem dX8_leaning_35 : decode cX8_leaning 35 = .ok (.goto (-31), 3) := by decide +kernel
theorem dX8_leaning_38 : decode cX8_leaning 38 = .ok (.iload_n 1, 1) := by decide +kernel
theorem dX8_leaning_39 : decode cX8_leaning 39 = .ok (.ireturn, 1) := by decide +kernel
theorem dX8_stand_0 : decode cX8_stand 0 = .ok (.aload_n 0, 1) := by decide +kernel
theorem dX8_stand_1 : decode cX8_stand 1 = .ok (.getfield 135, 3) := by decide +kernel
theorem dX8_stand_4 : decode cX8_stand 4 = .ok (.ifCond .ne 6, 3) := by decide +kernel
theorem dX8_stand_7 : decode cX8_stand 7 = .ok (.ldc 166, 2) := by decide +kernel
theorem dX8_stand_9 : decode cX8_stand 9 = .ok (.ireturn, 1) := by decide +kernel
theorem dX8_stand_10 : decode cX8_stand 10 = .ok (.iload_n 1, 1) := by decide +kernel
theorem dX8_stand_11 : decode cX8_stand 11 = .ok (.tableswitch 75 0 5 #[37, 42, 47, 54, 61, 68], 37) := by decide +kernel
theorem dX8_stand_48 : decode cX8_stand 48 = .ok (.aload_n 0, 1) := by decide +kernel
theorem dX8_stand_49 : decode cX8_stand 49 = .ok (.invokevirtual 155, 3) := by decide +kernel
theorem dX8_stand_52 : decode cX8_stand 52 = .ok (.ireturn, 1) := by decide +kernel
theorem dX8_stand_53 : decode cX8_stand 53 = .ok (.aload_n 0, 1) := by decide +kernel
theorem dX8_stand_54 : decode cX8_stand 54 = .ok (.invokevirtual 181, 3) := by decide +kernel
theorem dX8_stand_57 : decode cX8_stand 57 = .ok (.ireturn, 1) := by decide +kernel
theorem dX8_stand_58 : decode cX8_stand 58 = .ok (.aload_n 0, 1) := by decide +kernel
theorem dX8_stand_59 : decode cX8_stand 59 = .ok (.getfield 19, 3) := by decide +kernel
theorem dX8_stand_62 : decode cX8_stand 62 = .ok (.iconst 4, 1) := by decide +kernel
theorem dX8_stand_63 : decode cX8_stand 63 = .ok (.iaload, 1) := by decide +kernel
theorem dX8_stand_64 : decode cX8_stand 64 = .ok (.ireturn, 1) := by decide +kernel
theorem dX8_stand_65 : decode cX8_stand 65 = .ok (.aload_n 0, 1) := by decide +kernel
theorem dX8_stand_66 : decode cX8_stand 66 = .ok (.iconst 0, 1) := by decide +kernel
theorem dX8_stand_67 : decode cX8_stand 67 = .ok (.iconst 1, 1) := by decide +kernel
theorem dX8_stand_68 : decode cX8_stand 68 = .ok (.invokevirtual 184, 3) := by decide +kernel
theorem dX8_stand_71 : decode cX8_stand 71 = .ok (.ireturn, 1) := by decide +kernel
theorem dX8_stand_72 : decode cX8_stand 72 = .ok (.aload_n 0, 1) := by decide +kernel
theorem dX8_stand_73 : decode cX8_stand 73 = .ok (.getfield 19, 3) := by decide +kernel
theorem dX8_stand_76 : decode cX8_stand 76 = .ok (.iconst 1, 1) := by decide +kernel
theorem dX8_stand_77 : decode cX8_stand 77 = .ok (.iaload, 1) := by decide +kernel
theorem dX8_stand_78 : decode cX8_stand 78 = .ok (.ireturn, 1) := by decide +kernel
theorem dX8_stand_79 : decode cX8_stand 79 = .ok (.aload_n 0, 1) := by decide +kernel
theorem dX8_stand_80 : decode cX8_stand 80 = .ok (.getfield 19, 3) := by decide +kernel
theorem dX8_stand_83 : decode cX8_stand 83 = .ok (.iconst 2, 1) := by decide +kernel
theorem dX8_stand_84 : decode cX8_stand 84 = .ok (.iaload, 1) := by decide +kernel
theorem dX8_stand_85 : decode cX8_stand 85 = .ok (.ireturn, 1) := by decide +kernel
theorem dX8_stand_86 : decode cX8_stand 86 = .ok (.ldc 67, 2) := by decide +kernel
theorem dX8_stand_88 : decode cX8_stand 88 = .ok (.ireturn, 1) := by decide +kernel
theorem dX8_putAside_0 : decode cX8_putAside 0 = .ok (.iconst 0, 1) := by decide +kernel
theorem dX8_putAside_1 : decode cX8_putAside 1 = .ok (.istore_n 1, 1) := by decide +kernel
theorem dX8_putAside_2 : decode cX8_putAside 2 = .ok (.iload_n 1, 1) := by decide +kernel
theorem dX8_putAside_3 : decode cX8_putAside 3 = .ok (.bipush 29, 2) := by decide +kernel
theorem dX8_putAside_5 : decode cX8_putAside 5 = .ok (.if_icmp .ge 21, 3) := by decide +kernel
theorem dX8_putAside_8 : decode cX8_putAside 8 = .ok (.aload_n 0, 1) := by decide +kernel
theorem dX8_putAside_9 : decode cX8_putAside 9 = .ok (.getfield 34, 3) := by decide +kernel
theorem dX8_putAside_12 : decode cX8_putAside 12 = .ok (.iload_n 1, 1) := by decide +kernel
theorem dX8_putAside_13 : decode cX8_putAside 13 = .ok (.aload_n 0, 1) := by decide +kernel
theorem dX8_putAside_14 : decode cX8_putAside 14 = .ok (.getfield 19, 3) := by decide +kernel
theorem dX8_putAside_17 : decode cX8_putAside 17 = .ok (.iload_n 1, 1) := by decide +kernel
theorem dX8_putAside_18 : decode cX8_putAside 18 = .ok (.iaload, 1) := by decide +kernel
theorem dX8_putAside_19 : decode cX8_putAside 19 = .ok (.iastore, 1) := by decide +kernel
theorem dX8_putAside_20 : decode cX8_putAside 20 = .ok (.iinc 1 1, 3) := by decide +kernel
theorem dX8_putAside_23 : decode cX8_putAside 23 = .ok (.goto (-21), 3) := by decide +kernel
theorem dX8_putAside_26 : decode cX8_putAside 26 = .ok (.return_, 1) := by decide +kernel
theorem dX8_takeBack_0 : decode cX8_takeBack 0 = .ok (.iconst 0, 1) := by decide +kernel
theorem dX8_takeBack_1 : decode cX8_takeBack 1 = .ok (.istore_n 1, 1) := by decide +kernel
theorem dX8_takeBack_2 : decode cX8_takeBack 2 = .ok (.iload_n 1, 1) := by decide +kernel
theorem dX8_takeBack_3 : decode cX8_takeBack 3 = .ok (.bipush 29, 2) := by decide +kernel
theorem dX8_takeBack_5 : decode cX8_takeBack 5 = .ok (.if_icmp .ge 21, 3) := by decide +kernel
theorem dX8_takeBack_8 : decode cX8_takeBack 8 = .ok (.aload_n 0, 1) := by decide +kernel
theorem dX8_takeBack_9 : decode cX8_takeBack 9 = .ok (.getfield 19, 3) := by decide +kernel
theorem dX8_takeBack_12 : decode cX8_takeBack 12 = .ok (.iload_n 1, 1) := by decide +kernel
theorem dX8_takeBack_13 : decode cX8_takeBack 13 = .ok (.aload_n 0, 1) := by decide +kernel
theorem dX8_takeBack_14 : decode cX8_takeBack 14 = .ok (.getfield 34, 3) := by decide +kernel
theorem dX8_takeBack_17 : decode cX8_takeBack 17 = .ok (.iload_n 1, 1) := by decide +kernel
theorem dX8_takeBack_18 : decode cX8_takeBack 18 = .ok (.iaload, 1) := by decide +kernel
theorem dX8_takeBack_19 : decode cX8_takeBack 19 = .ok (.iastore, 1) := by decide +kernel
theorem dX8_takeBack_20 : decode cX8_takeBack 20 = .ok (.iinc 1 1, 3) := by decide +kernel
theorem dX8_takeBack_23 : decode cX8_takeBack 23 = .ok (.goto (-21), 3) := by decide +kernel
theorem dX8_takeBack_26 : decode cX8_takeBack 26 = .ok (.return_, 1) := by decide +kernel
theorem dX8_goOn_0 : decode cX8_goOn 0 = .ok (.iconst 0, 1) := by decide +kernel
theorem dX8_goOn_1 : decode cX8_goOn 1 = .ok (.istore_n 2, 1) := by decide +kernel
theorem dX8_goOn_2 : decode cX8_goOn 2 = .ok (.iload_n 2, 1) := by decide +kernel
theorem dX8_goOn_3 : decode cX8_goOn 3 = .ok (.iload_n 1, 1) := by decide +kernel
theorem dX8_goOn_4 : decode cX8_goOn 4 = .ok (.if_icmp .ge 13, 3) := by decide +kernel
theorem dX8_goOn_7 : decode cX8_goOn 7 = .ok (.aload_n 0, 1) := by decide +kernel
theorem dX8_goOn_8 : decode cX8_goOn 8 = .ok (.invokevirtual 172, 3) := by decide +kernel
theorem dX8_goOn_11 : decode cX8_goOn 11 = .ok (.iinc 2 1, 3) := by decide +kernel
theorem dX8_goOn_14 : decode cX8_goOn 14 = .ok (.goto (-12), 3) := by decide +kernel
theorem dX8_goOn_17 : decode cX8_goOn 17 = .ok (.return_, 1) := by decide +kernel
theorem dX8_leftBehind_0 : decode cX8_leftBehind 0 = .ok (.aload_n 0, 1) := by decide +kernel
theorem dX8_leftBehind_1 : decode cX8_leftBehind 1 = .ok (.iload_n 1, 1) := by decide +kernel
theorem dX8_leftBehind_2 : decode cX8_leftBehind 2 = .ok (.invokevirtual 187, 3) := by decide +kernel
theorem dX8_leftBehind_5 : decode cX8_leftBehind 5 = .ok (.aload_n 0, 1) := by decide +kernel
theorem dX8_leftBehind_6 : decode cX8_leftBehind 6 = .ok (.invokevirtual 155, 3) := by decide +kernel
theorem dX8_leftBehind_9 : decode cX8_leftBehind 9 = .ok (.istore_n 2, 1) := by decide +kernel
theorem dX8_leftBehind_10 : decode cX8_leftBehind 10 = .ok (.aload_n 0, 1) := by decide +kernel
theorem dX8_leftBehind_11 : decode cX8_leftBehind 11 = .ok (.invokevirtual 191, 3) := by decide +kernel
theorem dX8_leftBehind_14 : decode cX8_leftBehind 14 = .ok (.iload_n 2, 1) := by decide +kernel
theorem dX8_leftBehind_15 : decode cX8_leftBehind 15 = .ok (.ireturn, 1) := by decide +kernel
theorem dX8_isWhat_0 : decode cX8_isWhat 0 = .ok (.iload_n 0, 1) := by decide +kernel
theorem dX8_isWhat_1 : decode cX8_isWhat 1 = .ok (.i2l, 1) := by decide +kernel
theorem dX8_isWhat_2 : decode cX8_isWhat 2 = .ok (.lconst 0, 1) := by decide +kernel
theorem dX8_isWhat_3 : decode cX8_isWhat 3 = .ok (.lconst 1, 1) := by decide +kernel
theorem dX8_isWhat_4 : decode cX8_isWhat 4 = .ok (.invokestatic 57, 3) := by decide +kernel
theorem dX8_isWhat_7 : decode cX8_isWhat 7 = .ok (.ireturn, 1) := by decide +kernel
theorem dX8_ahead_0 : decode cX8_ahead 0 = .ok (.aload_n 0, 1) := by decide +kernel
theorem dX8_ahead_1 : decode cX8_ahead 1 = .ok (.iload_n 1, 1) := by decide +kernel
theorem dX8_ahead_2 : decode cX8_ahead 2 = .ok (.invokevirtual 175, 3) := by decide +kernel
theorem dX8_ahead_5 : decode cX8_ahead 5 = .ok (.ifCond .eq 15, 3) := by decide +kernel
theorem dX8_ahead_8 : decode cX8_ahead 8 = .ok (.iload_n 2, 1) := by decide +kernel
theorem dX8_ahead_9 : decode cX8_ahead 9 = .ok (.i2l, 1) := by decide +kernel
theorem dX8_ahead_10 : decode cX8_ahead 10 = .ok (.lconst 0, 1) := by decide +kernel
theorem dX8_ahead_11 : decode cX8_ahead 11 = .ok (.ldc2_w 194, 3) := by decide +kernel
theorem dX8_ahead_14 : decode cX8_ahead 14 = .ok (.invokestatic 57, 3) := by decide +kernel
theorem dX8_ahead_17 : decode cX8_ahead 17 = .ok (.ifCond .ne 6, 3) := by decide +kernel
theorem dX8_ahead_20 : decode cX8_ahead 20 = .ok (.ldc 67, 2) := by decide +kernel
theorem dX8_ahead_22 : decode cX8_ahead 22 = .ok (.ireturn, 1) := by decide +kernel
theorem dX8_ahead_23 : decode cX8_ahead 23 = .ok (.aload_n 0, 1) := by decide +kernel
theorem dX8_ahead_24 : decode cX8_ahead 24 = .ok (.invokevirtual 196, 3) := by decide +kernel
theorem dX8_ahead_27 : decode cX8_ahead 27 = .ok (.aload_n 0, 1) := by decide +kernel
theorem dX8_ahead_28 : decode cX8_ahead 28 = .ok (.iload_n 2, 1) := by decide +kernel
theorem dX8_ahead_29 : decode cX8_ahead 29 = .ok (.invokevirtual 187, 3) := by decide +kernel
theorem dX8_ahead_32 : decode cX8_ahead 32 = .ok (.aload_n 0, 1) := by decide +kernel
theorem dX8_ahead_33 : decode cX8_ahead 33 = .ok (.getfield 19, 3) := by decide +kernel
theorem dX8_ahead_36 : decode cX8_ahead 36 = .ok (.bipush 21, 2) := by decide +kernel
theorem dX8_ahead_38 : decode cX8_ahead 38 = .ok (.iload_n 1, 1) := by decide +kernel
theorem dX8_ahead_39 : decode cX8_ahead 39 = .ok (.iadd, 1) := by decide +kernel
theorem dX8_ahead_40 : decode cX8_ahead 40 = .ok (.iaload, 1) := by decide +kernel
theorem dX8_ahead_41 : decode cX8_ahead 41 = .ok (.istore_n 3, 1) := by decide +kernel
theorem dX8_ahead_42 : decode cX8_ahead 42 = .ok (.aload_n 0, 1) := by decide +kernel
theorem dX8_ahead_43 : decode cX8_ahead 43 = .ok (.invokevirtual 191, 3) := by decide +kernel
theorem dX8_ahead_46 : decode cX8_ahead 46 = .ok (.iload_n 3, 1) := by decide +kernel
theorem dX8_ahead_47 : decode cX8_ahead 47 = .ok (.ireturn, 1) := by decide +kernel
theorem dX8_isHow_0 : decode cX8_isHow 0 = .ok (.iload_n 2, 1) := by decide +kernel
theorem dX8_isHow_1 : decode cX8_isHow 1 = .ok (.ifCond .ne 19, 3) := by decide +kernel
theorem dX8_isHow_4 : decode cX8_isHow 4 = .ok (.aload_n 0, 1) := by decide +kernel
theorem dX8_isHow_5 : decode cX8_isHow 5 = .ok (.iload_n 1, 1) := by decide +kernel
theorem dX8_isHow_6 : decode cX8_isHow 6 = .ok (.invokevirtual 142, 3) := by decide +kernel
theorem dX8_isHow_9 : decode cX8_isHow 9 = .ok (.ifCond .ne 7, 3) := by decide +kernel
theorem dX8_isHow_12 : decode cX8_isHow 12 = .ok (.iconst 1, 1) := by decide +kernel
theorem dX8_isHow_13 : decode cX8_isHow 13 = .ok (.goto 12, 3) := by decide +kernel
theorem dX8_isHow_16 : decode cX8_isHow 16 = .ok (.iconst 0, 1) := by decide +kernel
theorem dX8_isHow_17 : decode cX8_isHow 17 = .ok (.goto 8, 3) := by decide +kernel
theorem dX8_isHow_20 : decode cX8_isHow 20 = .ok (.aload_n 0, 1) := by decide +kernel
theorem dX8_isHow_21 : decode cX8_isHow 21 = .ok (.iload_n 1, 1) := by decide +kernel
theorem dX8_isHow_22 : decode cX8_isHow 22 = .ok (.invokevirtual 149, 3) := by decide +kernel
theorem dX8_isHow_25 : decode cX8_isHow 25 = .ok (.ireturn, 1) := by decide +kernel
theorem dX8_when_0 : decode cX8_when 0 = .ok (.aload_n 0, 1) := by decide +kernel
theorem dX8_when_1 : decode cX8_when 1 = .ok (.iload_n 1, 1) := by decide +kernel
theorem dX8_when_2 : decode cX8_when 2 = .ok (.invokevirtual 175, 3) := by decide +kernel
theorem dX8_when_5 : decode cX8_when 5 = .ok (.ifCond .eq 13, 3) := by decide +kernel
theorem dX8_when_8 : decode cX8_when 8 = .ok (.iload_n 2, 1) := by decide +kernel
theorem dX8_when_9 : decode cX8_when 9 = .ok (.i2l, 1) := by decide +kernel
theorem dX8_when_10 : decode cX8_when 10 = .ok (.lconst 0, 1) := by decide +kernel
theorem dX8_when_11 : decode cX8_when 11 = .ok (.lconst 1, 1) := by decide +kernel
theorem dX8_when_12 : decode cX8_when 12 = .ok (.invokestatic 57, 3) := by decide +kernel
theorem dX8_when_15 : decode cX8_when 15 = .ok (.ifCond .ne 6, 3) := by decide +kernel
theorem dX8_when_18 : decode cX8_when 18 = .ok (.ldc 67, 2) := by decide +kernel
theorem dX8_when_20 : decode cX8_when 20 = .ok (.ireturn, 1) := by decide +kernel
theorem dX8_when_21 : decode cX8_when 21 = .ok (.aload_n 0, 1) := by decide +kernel
theorem dX8_when_22 : decode cX8_when 22 = .ok (.invokevirtual 196, 3) := by decide +kernel
theorem dX8_when_25 : decode cX8_when 25 = .ok (.iconst 0, 1) := by decide +kernel
theorem dX8_when_26 : decode cX8_when 26 = .ok (.istore_n 3, 1) := by decide +kernel
theorem dX8_when_27 : decode cX8_when 27 = .ok (.aload_n 0, 1) := by decide +kernel
theorem dX8_when_28 : decode cX8_when 28 = .ok (.iload_n 1, 1) := by decide +kernel
theorem dX8_when_29 : decode cX8_when 29 = .ok (.iload_n 2, 1) := by decide +kernel
theorem dX8_when_30 : decode cX8_when 30 = .ok (.invokevirtual 199, 3) := by decide +kernel
theorem dX8_when_33 : decode cX8_when 33 = .ok (.ifCond .ne 19, 3) := by decide +kernel
theorem dX8_when_36 : decode cX8_when 36 = .ok (.iload_n 3, 1) := by decide +kernel
theorem dX8_when_37 : decode cX8_when 37 = .ok (.bipush 60, 2) := by decide +kernel
theorem dX8_when_39 : decode cX8_when 39 = .ok (.if_icmp .ge 13, 3) := by decide +kernel
theorem dX8_when_42 : decode cX8_when 42 = .ok (.aload_n 0, 1) := by decide +kernel
theorem dX8_when_43 : decode cX8_when 43 = .ok (.invokevirtual 172, 3) := by decide +kernel
theorem dX8_when_46 : decode cX8_when 46 = .ok (.iinc 3 1, 3) := by decide +kernel
theorem dX8_when_49 : decode cX8_when 49 = .ok (.goto (-22), 3) := by decide +kernel
theorem dX8_when_52 : decode cX8_when 52 = .ok (.aload_n 0, 1) := by decide +kernel
theorem dX8_when_53 : decode cX8_when 53 = .ok (.iload_n 1, 1) := by decide +kernel
theorem dX8_when_54 : decode cX8_when 54 = .ok (.iload_n 2, 1) := by decide +kernel
theorem dX8_when_55 : decode cX8_when 55 = .ok (.invokevirtual 199, 3) := by decide +kernel
theorem dX8_when_58 : decode cX8_when 58 = .ok (.istore 4, 2) := by decide +kernel
theorem dX8_when_60 : decode cX8_when 60 = .ok (.aload_n 0, 1) := by decide +kernel
theorem dX8_when_61 : decode cX8_when 61 = .ok (.invokevirtual 191, 3) := by decide +kernel
theorem dX8_when_64 : decode cX8_when 64 = .ok (.iload 4, 2) := by decide +kernel
theorem dX8_when_66 : decode cX8_when 66 = .ok (.ifCond .eq 7, 3) := by decide +kernel
theorem dX8_when_69 : decode cX8_when 69 = .ok (.iload_n 3, 1) := by decide +kernel
theorem dX8_when_70 : decode cX8_when 70 = .ok (.goto 5, 3) := by decide +kernel
theorem dX8_when_73 : decode cX8_when 73 = .ok (.ldc 202, 2) := by decide +kernel
theorem dX8_when_75 : decode cX8_when 75 = .ok (.ireturn, 1) := by decide +kernel
theorem dX8_least_0 : decode cX8_least 0 = .ok (.iconst 0, 1) := by decide +kernel
theorem dX8_least_1 : decode cX8_least 1 = .ok (.istore_n 1, 1) := by decide +kernel
theorem dX8_least_2 : decode cX8_least 2 = .ok (.iload_n 0, 1) := by decide +kernel
theorem dX8_least_3 : decode cX8_least 3 = .ok (.iload_n 1, 1) := by decide +kernel
theorem dX8_least_4 : decode cX8_least 4 = .ok (.invokestatic 145, 3) := by decide +kernel
theorem dX8_least_7 : decode cX8_least 7 = .ok (.ifCond .ne 9, 3) := by decide +kernel
theorem dX8_least_10 : decode cX8_least 10 = .ok (.iinc 1 1, 3) := by decide +kernel
theorem dX8_least_13 : decode cX8_least 13 = .ok (.goto (-11), 3) := by decide +kernel
theorem dX8_least_16 : decode cX8_least 16 = .ok (.iload_n 1, 1) := by decide +kernel
theorem dX8_least_17 : decode cX8_least 17 = .ok (.ireturn, 1) := by decide +kernel
theorem dX8_first_0 : decode cX8_first 0 = .ok (.aload_n 0, 1) := by decide +kernel
theorem dX8_first_1 : decode cX8_first 1 = .ok (.getfield 135, 3) := by decide +kernel
theorem dX8_first_4 : decode cX8_first 4 = .ok (.ifCond .ne 6, 3) := by decide +kernel
theorem dX8_first_7 : decode cX8_first 7 = .ok (.ldc 166, 2) := by decide +kernel
theorem dX8_first_9 : decode cX8_first 9 = .ok (.ireturn, 1) := by decide +kernel
theorem dX8_first_10 : decode cX8_first 10 = .ok (.iload_n 1, 1) := by decide +kernel
theorem dX8_first_11 : decode cX8_first 11 = .ok (.invokestatic 203, 3) := by decide +kernel
theorem dX8_first_14 : decode cX8_first 14 = .ok (.ifCond .ne 6, 3) := by decide +kernel
theorem dX8_first_17 : decode cX8_first 17 = .ok (.ldc 67, 2) := by decide +kernel
theorem dX8_first_19 : decode cX8_first 19 = .ok (.ireturn, 1) := by decide +kernel
theorem dX8_first_20 : decode cX8_first 20 = .ok (.aload_n 0, 1) := by decide +kernel
theorem dX8_first_21 : decode cX8_first 21 = .ok (.invokevirtual 196, 3) := by decide +kernel
theorem dX8_first_24 : decode cX8_first 24 = .ok (.aload_n 0, 1) := by decide +kernel
theorem dX8_first_25 : decode cX8_first 25 = .ok (.invokevirtual 155, 3) := by decide +kernel
theorem dX8_first_28 : decode cX8_first 28 = .ok (.istore_n 2, 1) := by decide +kernel
theorem dX8_first_29 : decode cX8_first 29 = .ok (.iconst 0, 1) := by decide +kernel
theorem dX8_first_30 : decode cX8_first 30 = .ok (.istore_n 3, 1) := by decide +kernel
theorem dX8_first_31 : decode cX8_first 31 = .ok (.aload_n 0, 1) := by decide +kernel
theorem dX8_first_32 : decode cX8_first 32 = .ok (.invokevirtual 155, 3) := by decide +kernel
theorem dX8_first_35 : decode cX8_first 35 = .ok (.iload_n 2, 1) := by decide +kernel
theorem dX8_first_36 : decode cX8_first 36 = .ok (.if_icmp .ne 19, 3) := by decide +kernel
theorem dX8_first_39 : decode cX8_first 39 = .ok (.iload_n 3, 1) := by decide +kernel
theorem dX8_first_40 : decode cX8_first 40 = .ok (.bipush 60, 2) := by decide +kernel
theorem dX8_first_42 : decode cX8_first 42 = .ok (.if_icmp .ge 13, 3) := by decide +kernel
theorem dX8_first_45 : decode cX8_first 45 = .ok (.aload_n 0, 1) := by decide +kernel
theorem dX8_first_46 : decode cX8_first 46 = .ok (.invokevirtual 172, 3) := by decide +kernel
theorem dX8_first_49 : decode cX8_first 49 = .ok (.iinc 3 1, 3) := by decide +kernel
theorem dX8_first_52 : decode cX8_first 52 = .ok (.goto (-21), 3) := by decide +kernel
theorem dX8_first_55 : decode cX8_first 55 = .ok (.iload_n 2, 1) := by decide +kernel
theorem dX8_first_56 : decode cX8_first 56 = .ok (.aload_n 0, 1) := by decide +kernel
theorem dX8_first_57 : decode cX8_first 57 = .ok (.invokevirtual 155, 3) := by decide +kernel
theorem dX8_first_60 : decode cX8_first 60 = .ok (.iconst (-1), 1) := by decide +kernel
theorem dX8_first_61 : decode cX8_first 61 = .ok (.ixor, 1) := by decide +kernel
theorem dX8_first_62 : decode cX8_first 62 = .ok (.iand, 1) := by decide +kernel
theorem dX8_first_63 : decode cX8_first 63 = .ok (.istore 4, 2) := by decide +kernel
theorem dX8_first_65 : decode cX8_first 65 = .ok (.aload_n 0, 1) := by decide +kernel
theorem dX8_first_66 : decode cX8_first 66 = .ok (.invokevirtual 191, 3) := by decide +kernel
theorem dX8_first_69 : decode cX8_first 69 = .ok (.iload 4, 2) := by decide +kernel
theorem dX8_first_71 : decode cX8_first 71 = .ok (.ifCond .ne 8, 3) := by decide +kernel
theorem dX8_first_74 : decode cX8_first 74 = .ok (.ldc 202, 2) := by decide +kernel
theorem dX8_first_76 : decode cX8_first 76 = .ok (.goto 16, 3) := by decide +kernel
theorem dX8_first_79 : decode cX8_first 79 = .ok (.iload_n 1, 1) := by decide +kernel
theorem dX8_first_80 : decode cX8_first 80 = .ok (.ifCond .ne 11, 3) := by decide +kernel
theorem dX8_first_83 : decode cX8_first 83 = .ok (.iload 4, 2) := by decide +kernel
theorem dX8_first_85 : decode cX8_first 85 = .ok (.invokestatic 206, 3) := by decide +kernel
theorem dX8_first_88 : decode cX8_first 88 = .ok (.goto 4, 3) := by decide +kernel
theorem dX8_first_91 : decode cX8_first 91 = .ok (.iload_n 3, 1) := by decide +kernel
theorem dX8_first_92 : decode cX8_first 92 = .ok (.ireturn, 1) := by decide +kernel
theorem dX8_left_0 : decode cX8_left 0 = .ok (.aload_n 0, 1) := by decide +kernel
theorem dX8_left_1 : decode cX8_left 1 = .ok (.getfield 135, 3) := by decide +kernel
theorem dX8_left_4 : decode cX8_left 4 = .ok (.ifCond .ne 6, 3) := by decide +kernel
theorem dX8_left_7 : decode cX8_left 7 = .ok (.ldc 166, 2) := by decide +kernel
theorem dX8_left_9 : decode cX8_left 9 = .ok (.ireturn, 1) := by decide +kernel
theorem dX8_left_10 : decode cX8_left 10 = .ok (.iload_n 1, 1) := by decide +kernel
theorem dX8_left_11 : decode cX8_left 11 = .ok (.i2l, 1) := by decide +kernel
theorem dX8_left_12 : decode cX8_left 12 = .ok (.lconst 0, 1) := by decide +kernel
theorem dX8_left_13 : decode cX8_left 13 = .ok (.ldc2_w 194, 3) := by decide +kernel
theorem dX8_left_16 : decode cX8_left 16 = .ok (.invokestatic 57, 3) := by decide +kernel
theorem dX8_left_19 : decode cX8_left 19 = .ok (.ifCond .ne 6, 3) := by decide +kernel
theorem dX8_left_22 : decode cX8_left 22 = .ok (.ldc 67, 2) := by decide +kernel
theorem dX8_left_24 : decode cX8_left 24 = .ok (.ireturn, 1) := by decide +kernel
theorem dX8_left_25 : decode cX8_left 25 = .ok (.aload_n 0, 1) := by decide +kernel
theorem dX8_left_26 : decode cX8_left 26 = .ok (.invokevirtual 196, 3) := by decide +kernel
theorem dX8_left_29 : decode cX8_left 29 = .ok (.aload_n 0, 1) := by decide +kernel
theorem dX8_left_30 : decode cX8_left 30 = .ok (.iload_n 1, 1) := by decide +kernel
theorem dX8_left_31 : decode cX8_left 31 = .ok (.invokevirtual 209, 3) := by decide +kernel
theorem dX8_left_34 : decode cX8_left 34 = .ok (.ireturn, 1) := by decide +kernel
theorem dX8_leastSpin_0 : decode cX8_leastSpin 0 = .ok (.iconst 0, 1) := by decide +kernel
theorem dX8_leastSpin_1 : decode cX8_leastSpin 1 = .ok (.istore_n 1, 1) := by decide +kernel
theorem dX8_leastSpin_2 : decode cX8_leastSpin 2 = .ok (.iconst 0, 1) := by decide +kernel
theorem dX8_leastSpin_3 : decode cX8_leastSpin 3 = .ok (.istore_n 2, 1) := by decide +kernel
theorem dX8_leastSpin_4 : decode cX8_leastSpin 4 = .ok (.iload_n 2, 1) := by decide +kernel
theorem dX8_leastSpin_5 : decode cX8_leastSpin 5 = .ok (.aload_n 0, 1) := by decide +kernel
theorem dX8_leastSpin_6 : decode cX8_leastSpin 6 = .ok (.getfield 19, 3) := by decide +kernel
theorem dX8_leastSpin_9 : decode cX8_leastSpin 9 = .ok (.iconst 0, 1) := by decide +kernel
theorem dX8_leastSpin_10 : decode cX8_leastSpin 10 = .ok (.iaload, 1) := by decide +kernel
theorem dX8_leastSpin_11 : decode cX8_leastSpin 11 = .ok (.if_icmp .ge 48, 3) := by decide +kernel
theorem dX8_leastSpin_14 : decode cX8_leastSpin 14 = .ok (.aload_n 0, 1) := by decide +kernel
theorem dX8_leastSpin_15 : decode cX8_leastSpin 15 = .ok (.iload_n 2, 1) := by decide +kernel
theorem dX8_leastSpin_16 : decode cX8_leastSpin 16 = .ok (.invokevirtual 142, 3) := by decide +kernel
theorem dX8_leastSpin_19 : decode cX8_leastSpin 19 = .ok (.ifCond .eq 32, 3) := by decide +kernel
theorem dX8_leastSpin_22 : decode cX8_leastSpin 22 = .ok (.iload_n 1, 1) := by decide +kernel
theorem dX8_leastSpin_23 : decode cX8_leastSpin 23 = .ok (.ifCond .eq 16, 3) := by decide +kernel
theorem dX8_leastSpin_26 : decode cX8_leastSpin 26 = .ok (.aload_n 0, 1) := by decide +kernel
theorem dX8_leastSpin_27 : decode cX8_leastSpin 27 = .ok (.getfield 19, 3) := by decide +kernel
theorem dX8_leastSpin_30 : decode cX8_leastSpin 30 = .ok (.bipush 21, 2) := by decide +kernel
theorem dX8_leastSpin_32 : decode cX8_leastSpin 32 = .ok (.iload_n 2, 1) := by decide +kernel
theorem dX8_leastSpin_33 : decode cX8_leastSpin 33 = .ok (.iadd, 1) := by decide +kernel
theorem dX8_leastSpin_34 : decode cX8_leastSpin 34 = .ok (.iaload, 1) := by decide +kernel
theorem dX8_leastSpin_35 : decode cX8_leastSpin 35 = .ok (.iload_n 1, 1) := by decide +kernel
theorem dX8_leastSpin_36 : decode cX8_leastSpin 36 = .ok (.if_icmp .ge 15, 3) := by decide +kernel
theorem dX8_leastSpin_39 : decode cX8_leastSpin 39 = .ok (.aload_n 0, 1) := by decide +kernel
theorem dX8_leastSpin_40 : decode cX8_leastSpin 40 = .ok (.getfield 19, 3) := by decide +kernel
theorem dX8_leastSpin_43 : decode cX8_leastSpin 43 = .ok (.bipush 21, 2) := by decide +kernel
theorem dX8_leastSpin_45 : decode cX8_leastSpin 45 = .ok (.iload_n 2, 1) := by decide +kernel
theorem dX8_leastSpin_46 : decode cX8_leastSpin 46 = .ok (.iadd, 1) := by decide +kernel
theorem dX8_leastSpin_47 : decode cX8_leastSpin 47 = .ok (.iaload, 1) := by decide +kernel
theorem dX8_leastSpin_48 : decode cX8_leastSpin 48 = .ok (.goto 4, 3) := by decide +kernel
theorem dX8_leastSpin_51 : decode cX8_leastSpin 51 = .ok (.iload_n 1, 1) := by decide +kernel
theorem dX8_leastSpin_52 : decode cX8_leastSpin 52 = .ok (.istore_n 1, 1) := by decide +kernel
theorem dX8_leastSpin_53 : decode cX8_leastSpin 53 = .ok (.iinc 2 1, 3) := by decide +kernel
theorem dX8_leastSpin_56 : decode cX8_leastSpin 56 = .ok (.goto (-52), 3) := by decide +kernel
theorem dX8_leastSpin_59 : decode cX8_leastSpin 59 = .ok (.iload_n 1, 1) := by decide +kernel
theorem dX8_leastSpin_60 : decode cX8_leastSpin 60 = .ok (.ireturn, 1) := by decide +kernel
theorem dX8_goesRound_0 : decode cX8_goesRound 0 = .ok (.iload_n 1, 1) := by decide +kernel
theorem dX8_goesRound_1 : decode cX8_goesRound 1 = .ok (.istore 5, 2) := by decide +kernel
theorem dX8_goesRound_3 : decode cX8_goesRound 3 = .ok (.iload_n 2, 1) := by decide +kernel
theorem dX8_goesRound_4 : decode cX8_goesRound 4 = .ok (.istore 6, 2) := by decide +kernel
theorem dX8_goesRound_6 : decode cX8_goesRound 6 = .ok (.iload 4, 2) := by decide +kernel
theorem dX8_goesRound_8 : decode cX8_goesRound 8 = .ok (.istore 7, 2) := by decide +kernel
theorem dX8_goesRound_10 : decode cX8_goesRound 10 = .ok (.iconst 0, 1) := by decide +kernel
theorem dX8_goesRound_11 : decode cX8_goesRound 11 = .ok (.istore 8, 2) := by decide +kernel
theorem dX8_goesRound_13 : decode cX8_goesRound 13 = .ok (.iload 8, 2) := by decide +kernel
theorem dX8_goesRound_15 : decode cX8_goesRound 15 = .ok (.iload_n 3, 1) := by decide +kernel
theorem dX8_goesRound_16 : decode cX8_goesRound 16 = .ok (.if_icmp .ge 70, 3) := by decide +kernel
theorem dX8_goesRound_19 : decode cX8_goesRound 19 = .ok (.iload 5, 2) := by decide +kernel
theorem dX8_goesRound_21 : decode cX8_goesRound 21 = .ok (.iload 6, 2) := by decide +kernel
theorem dX8_goesRound_23 : decode cX8_goesRound 23 = .ok (.iload 7, 2) := by decide +kernel
theorem dX8_goesRound_25 : decode cX8_goesRound 25 = .ok (.idiv, 1) := by decide +kernel
theorem dX8_goesRound_26 : decode cX8_goesRound 26 = .ok (.iconst 1, 1) := by decide +kernel
theorem dX8_goesRound_27 : decode cX8_goesRound 27 = .ok (.isub, 1) := by decide +kernel
theorem dX8_goesRound_28 : decode cX8_goesRound 28 = .ok (.iadd, 1) := by decide +kernel
theorem dX8_goesRound_29 : decode cX8_goesRound 29 = .ok (.istore 5, 2) := by decide +kernel
theorem dX8_goesRound_31 : decode cX8_goesRound 31 = .ok (.iload 6, 2) := by decide +kernel
theorem dX8_goesRound_33 : decode cX8_goesRound 33 = .ok (.iload 7, 2) := by decide +kernel
theorem dX8_goesRound_35 : decode cX8_goesRound 35 = .ok (.irem, 1) := by decide +kernel
theorem dX8_goesRound_36 : decode cX8_goesRound 36 = .ok (.istore 6, 2) := by decide +kernel
theorem dX8_goesRound_38 : decode cX8_goesRound 38 = .ok (.iload 7, 2) := by decide +kernel
theorem dX8_goesRound_40 : decode cX8_goesRound 40 = .ok (.iconst 3, 1) := by decide +kernel
theorem dX8_goesRound_41 : decode cX8_goesRound 41 = .ok (.idiv, 1) := by decide +kernel
theorem dX8_goesRound_42 : decode cX8_goesRound 42 = .ok (.istore 7, 2) := by decide +kernel
theorem dX8_goesRound_44 : decode cX8_goesRound 44 = .ok (.aload_n 0, 1) := by decide +kernel
theorem dX8_goesRound_45 : decode cX8_goesRound 45 = .ok (.iload 5, 2) := by decide +kernel
theorem dX8_goesRound_47 : decode cX8_goesRound 47 = .ok (.invokevirtual 175, 3) := by decide +kernel
theorem dX8_goesRound_50 : decode cX8_goesRound 50 = .ok (.ifCond .ne 5, 3) := by decide +kernel
theorem dX8_goesRound_53 : decode cX8_goesRound 53 = .ok (.iconst 0, 1) := by decide +kernel
theorem dX8_goesRound_54 : decode cX8_goesRound 54 = .ok (.ireturn, 1) := by decide +kernel
theorem dX8_goesRound_55 : decode cX8_goesRound 55 = .ok (.aload_n 0, 1) := by decide +kernel
theorem dX8_goesRound_56 : decode cX8_goesRound 56 = .ok (.iload 5, 2) := by decide +kernel
theorem dX8_goesRound_58 : decode cX8_goesRound 58 = .ok (.invokevirtual 142, 3) := by decide +kernel
theorem dX8_goesRound_61 : decode cX8_goesRound 61 = .ok (.ifCond .eq 15, 3) := by decide +kernel
theorem dX8_goesRound_64 : decode cX8_goesRound 64 = .ok (.aload_n 0, 1) := by decide +kernel
theorem dX8_goesRound_65 : decode cX8_goesRound 65 = .ok (.iload 5, 2) := by decide +kernel
theorem dX8_goesRound_67 : decode cX8_goesRound 67 = .ok (.aload_n 0, 1) := by decide +kernel
theorem dX8_goesRound_68 : decode cX8_goesRound 68 = .ok (.getfield 19, 3) := by decide +kernel
theorem dX8_goesRound_71 : decode cX8_goesRound 71 = .ok (.iconst 1, 1) := by decide +kernel
theorem dX8_goesRound_72 : decode cX8_goesRound 72 = .ok (.iaload, 1) := by decide +kernel
theorem dX8_goesRound_73 : decode cX8_goesRound 73 = .ok (.invokevirtual 178, 3) := by decide +kernel
theorem dX8_goesRound_76 : decode cX8_goesRound 76 = .ok (.aload_n 0, 1) := by decide +kernel
theorem dX8_goesRound_77 : decode cX8_goesRound 77 = .ok (.invokevirtual 172, 3) := by decide +kernel
theorem dX8_goesRound_80 : decode cX8_goesRound 80 = .ok (.iinc 8 1, 3) := by decide +kernel
theorem dX8_goesRound_83 : decode cX8_goesRound 83 = .ok (.goto (-70), 3) := by decide +kernel
theorem dX8_goesRound_86 : decode cX8_goesRound 86 = .ok (.iconst 1, 1) := by decide +kernel
theorem dX8_goesRound_87 : decode cX8_goesRound 87 = .ok (.ireturn, 1) := by decide +kernel
theorem dX8_round_0 : decode cX8_round 0 = .ok (.aload_n 0, 1) := by decide +kernel
theorem dX8_round_1 : decode cX8_round 1 = .ok (.iload_n 1, 1) := by decide +kernel
theorem dX8_round_2 : decode cX8_round 2 = .ok (.invokevirtual 175, 3) := by decide +kernel
theorem dX8_round_5 : decode cX8_round 5 = .ok (.ifCond .eq 21, 3) := by decide +kernel
theorem dX8_round_8 : decode cX8_round 8 = .ok (.iload_n 2, 1) := by decide +kernel
theorem dX8_round_9 : decode cX8_round 9 = .ok (.i2l, 1) := by decide +kernel
theorem dX8_round_10 : decode cX8_round 10 = .ok (.lconst 1, 1) := by decide +kernel
theorem dX8_round_11 : decode cX8_round 11 = .ok (.ldc2_w 55, 3) := by decide +kernel
theorem dX8_round_14 : decode cX8_round 14 = .ok (.invokestatic 57, 3) := by decide +kernel
theorem dX8_round_17 : decode cX8_round 17 = .ok (.ifCond .eq 9, 3) := by decide +kernel
theorem dX8_round_20 : decode cX8_round 20 = .ok (.iload_n 3, 1) := by decide +kernel
theorem dX8_round_21 : decode cX8_round 21 = .ok (.bipush (-2), 2) := by decide +kernel
theorem dX8_round_23 : decode cX8_round 23 = .ok (.if_icmp .ge 6, 3) := by decide +kernel
theorem dX8_round_26 : decode cX8_round 26 = .ok (.ldc 67, 2) := by decide +kernel
theorem dX8_round_28 : decode cX8_round 28 = .ok (.ireturn, 1) := by decide +kernel
theorem dX8_round_29 : decode cX8_round 29 = .ok (.iconst 1, 1) := by decide +kernel
theorem dX8_round_30 : decode cX8_round 30 = .ok (.istore 4, 2) := by decide +kernel
theorem dX8_round_32 : decode cX8_round 32 = .ok (.iconst 0, 1) := by decide +kernel
theorem dX8_round_33 : decode cX8_round 33 = .ok (.istore 5, 2) := by decide +kernel
theorem dX8_round_35 : decode cX8_round 35 = .ok (.iload 5, 2) := by decide +kernel
theorem dX8_round_37 : decode cX8_round 37 = .ok (.iload_n 2, 1) := by decide +kernel
theorem dX8_round_38 : decode cX8_round 38 = .ok (.if_icmp .ge 15, 3) := by decide +kernel
theorem dX8_round_41 : decode cX8_round 41 = .ok (.iload 4, 2) := by decide +kernel
theorem dX8_round_43 : decode cX8_round 43 = .ok (.iconst 3, 1) := by decide +kernel
theorem dX8_round_44 : decode cX8_round 44 = .ok (.imul, 1) := by decide +kernel
theorem dX8_round_45 : decode cX8_round 45 = .ok (.istore 4, 2) := by decide +kernel
theorem dX8_round_47 : decode cX8_round 47 = .ok (.iinc 5 1, 3) := by decide +kernel
theorem dX8_round_50 : decode cX8_round 50 = .ok (.goto (-15), 3) := by decide +kernel
theorem dX8_round_53 : decode cX8_round 53 = .ok (.aload_n 0, 1) := by decide +kernel
theorem dX8_round_54 : decode cX8_round 54 = .ok (.invokevirtual 196, 3) := by decide +kernel
theorem dX8_round_57 : decode cX8_round 57 = .ok (.iconst 0, 1) := by decide +kernel
theorem dX8_round_58 : decode cX8_round 58 = .ok (.istore 5, 2) := by decide +kernel
theorem dX8_round_60 : decode cX8_round 60 = .ok (.iconst (-1), 1) := by decide +kernel
theorem dX8_round_61 : decode cX8_round 61 = .ok (.istore 6, 2) := by decide +kernel
theorem dX8_round_63 : decode cX8_round 63 = .ok (.iconst 0, 1) := by decide +kernel
theorem dX8_round_64 : decode cX8_round 64 = .ok (.istore 7, 2) := by decide +kernel
theorem dX8_round_66 : decode cX8_round 66 = .ok (.iconst 0, 1) := by decide +kernel
theorem dX8_round_67 : decode cX8_round 67 = .ok (.istore 8, 2) := by decide +kernel
theorem dX8_round_69 : decode cX8_round 69 = .ok (.iload 8, 2) := by decide +kernel
theorem dX8_round_71 : decode cX8_round 71 = .ok (.iload 4, 2) := by decide +kernel
theorem dX8_round_73 : decode cX8_round 73 = .ok (.if_icmp .ge 80, 3) := by decide +kernel
theorem dX8_round_76 : decode cX8_round 76 = .ok (.aload_n 0, 1) := by decide +kernel
theorem dX8_round_77 : decode cX8_round 77 = .ok (.iload_n 1, 1) := by decide +kernel
theorem dX8_round_78 : decode cX8_round 78 = .ok (.iload 8, 2) := by decide +kernel
theorem dX8_round_80 : decode cX8_round 80 = .ok (.iload_n 2, 1) := by decide +kernel
theorem dX8_round_81 : decode cX8_round 81 = .ok (.iload 4, 2) := by decide +kernel
theorem dX8_round_83 : decode cX8_round 83 = .ok (.iconst 3, 1) := by decide +kernel
theorem dX8_round_84 : decode cX8_round 84 = .ok (.idiv, 1) := by decide +kernel
theorem dX8_round_85 : decode cX8_round 85 = .ok (.invokevirtual 212, 3) := by decide +kernel
theorem dX8_round_88 : decode cX8_round 88 = .ok (.istore 9, 2) := by decide +kernel
theorem dX8_round_90 : decode cX8_round 90 = .ok (.aload_n 0, 1) := by decide +kernel
theorem dX8_round_91 : decode cX8_round 91 = .ok (.invokevirtual 155, 3) := by decide +kernel
theorem dX8_round_94 : decode cX8_round 94 = .ok (.invokestatic 215, 3) := by decide +kernel
theorem dX8_round_97 : decode cX8_round 97 = .ok (.istore 10, 2) := by decide +kernel
theorem dX8_round_99 : decode cX8_round 99 = .ok (.aload_n 0, 1) := by decide +kernel
theorem dX8_round_100 : decode cX8_round 100 = .ok (.invokevirtual 218, 3) := by decide +kernel
theorem dX8_round_103 : decode cX8_round 103 = .ok (.istore 11, 2) := by decide +kernel
theorem dX8_round_105 : decode cX8_round 105 = .ok (.aload_n 0, 1) := by decide +kernel
theorem dX8_round_106 : decode cX8_round 106 = .ok (.invokevirtual 191, 3) := by decide +kernel
theorem dX8_round_109 : decode cX8_round 109 = .ok (.iload 9, 2) := by decide +kernel
theorem dX8_round_111 : decode cX8_round 111 = .ok (.ifCond .eq 36, 3) := by decide +kernel
theorem dX8_round_114 : decode cX8_round 114 = .ok (.iload 10, 2) := by decide +kernel
theorem dX8_round_116 : decode cX8_round 116 = .ok (.iload 6, 2) := by decide +kernel
theorem dX8_round_118 : decode cX8_round 118 = .ok (.if_icmp .gt 17, 3) := by decide +kernel
theorem dX8_round_121 : decode cX8_round 121 = .ok (.iload 10, 2) := by decide +kernel
theorem dX8_round_123 : decode cX8_round 123 = .ok (.iload 6, 2) := by decide +kernel
theorem dX8_round_125 : decode cX8_round 125 = .ok (.if_icmp .ne 22, 3) := by decide +kernel
theorem dX8_round_128 : decode cX8_round 128 = .ok (.iload 11, 2) := by decide +kernel
theorem dX8_round_130 : decode cX8_round 130 = .ok (.iload 7, 2) := by decide +kernel
theorem dX8_round_132 : decode cX8_round 132 = .ok (.if_icmp .le 15, 3) := by decide +kernel
theorem dX8_round_135 : decode cX8_round 135 = .ok (.iload 8, 2) := by decide +kernel
theorem dX8_round_137 : decode cX8_round 137 = .ok (.istore 5, 2) := by decide +kernel
theorem dX8_round_139 : decode cX8_round 139 = .ok (.iload 10, 2) := by decide +kernel
theorem dX8_round_141 : decode cX8_round 141 = .ok (.istore 6, 2) := by decide +kernel
theorem dX8_round_143 : decode cX8_round 143 = .ok (.iload 11, 2) := by decide +kernel
theorem dX8_round_145 : decode cX8_round 145 = .ok (.istore 7, 2) := by decide +kernel
theorem dX8_round_147 : decode cX8_round 147 = .ok (.iinc 8 1, 3) := by decide +kernel
theorem dX8_round_150 : decode cX8_round 150 = .ok (.goto (-81), 3) := by decide +kernel
theorem dX8_round_153 : decode cX8_round 153 = .ok (.iload_n 3, 1) := by decide +kernel
theorem dX8_round_154 : decode cX8_round 154 = .ok (.ifCond .ge 16, 3) := by decide +kernel
theorem dX8_round_157 : decode cX8_round 157 = .ok (.iload_n 3, 1) := by decide +kernel
theorem dX8_round_158 : decode cX8_round 158 = .ok (.iconst (-1), 1) := by decide +kernel
theorem dX8_round_159 : decode cX8_round 159 = .ok (.if_icmp .ne 8, 3) := by decide +kernel
theorem dX8_round_162 : decode cX8_round 162 = .ok (.iload 6, 2) := by decide +kernel
theorem dX8_round_164 : decode cX8_round 164 = .ok (.goto 5, 3) := by decide +kernel
theorem dX8_round_167 : decode cX8_round 167 = .ok (.iload 7, 2) := by decide +kernel
theorem dX8_round_169 : decode cX8_round 169 = .ok (.ireturn, 1) := by decide +kernel
theorem dX8_round_170 : decode cX8_round 170 = .ok (.iload 4, 2) := by decide +kernel
theorem dX8_round_172 : decode cX8_round 172 = .ok (.iconst 3, 1) := by decide +kernel
theorem dX8_round_173 : decode cX8_round 173 = .ok (.idiv, 1) := by decide +kernel
theorem dX8_round_174 : decode cX8_round 174 = .ok (.istore 8, 2) := by decide +kernel
theorem dX8_round_176 : decode cX8_round 176 = .ok (.iconst 0, 1) := by decide +kernel
theorem dX8_round_177 : decode cX8_round 177 = .ok (.istore 9, 2) := by decide +kernel
theorem dX8_round_179 : decode cX8_round 179 = .ok (.iload 9, 2) := by decide +kernel
theorem dX8_round_181 : decode cX8_round 181 = .ok (.iload_n 3, 1) := by decide +kernel
theorem dX8_round_182 : decode cX8_round 182 = .ok (.if_icmp .ge 28, 3) := by decide +kernel
theorem dX8_round_185 : decode cX8_round 185 = .ok (.iload 9, 2) := by decide +kernel
theorem dX8_round_187 : decode cX8_round 187 = .ok (.iload_n 2, 1) := by decide +kernel
theorem dX8_round_188 : decode cX8_round 188 = .ok (.if_icmp .ge 22, 3) := by decide +kernel
theorem dX8_round_191 : decode cX8_round 191 = .ok (.iload 5, 2) := by decide +kernel
theorem dX8_round_193 : decode cX8_round 193 = .ok (.iload 8, 2) := by decide +kernel
theorem dX8_round_195 : decode cX8_round 195 = .ok (.irem, 1) := by decide +kernel
theorem dX8_round_196 : decode cX8_round 196 = .ok (.istore 5, 2) := by decide +kernel
theorem dX8_round_198 : decode cX8_round 198 = .ok (.iload 8, 2) := by decide +kernel
theorem dX8_round_200 : decode cX8_round 200 = .ok (.iconst 3, 1) := by decide +kernel
theorem dX8_round_201 : decode cX8_round 201 = .ok (.idiv, 1) := by decide +kernel
theorem dX8_round_202 : decode cX8_round 202 = .ok (.istore 8, 2) := by decide +kernel
theorem dX8_round_204 : decode cX8_round 204 = .ok (.iinc 9 1, 3) := by decide +kernel
theorem dX8_round_207 : decode cX8_round 207 = .ok (.goto (-28), 3) := by decide +kernel
theorem dX8_round_210 : decode cX8_round 210 = .ok (.iload_n 3, 1) := by decide +kernel
theorem dX8_round_211 : decode cX8_round 211 = .ok (.iload_n 2, 1) := by decide +kernel
theorem dX8_round_212 : decode cX8_round 212 = .ok (.if_icmp .ge 11, 3) := by decide +kernel
theorem dX8_round_215 : decode cX8_round 215 = .ok (.iload 5, 2) := by decide +kernel
theorem dX8_round_217 : decode cX8_round 217 = .ok (.iload 8, 2) := by decide +kernel
theorem dX8_round_219 : decode cX8_round 219 = .ok (.idiv, 1) := by decide +kernel
theorem dX8_round_220 : decode cX8_round 220 = .ok (.goto 5, 3) := by decide +kernel
theorem dX8_round_223 : decode cX8_round 223 = .ok (.ldc 202, 2) := by decide +kernel
theorem dX8_round_225 : decode cX8_round 225 = .ok (.ireturn, 1) := by decide +kernel
theorem dX8_walls_0 : decode cX8_walls 0 = .ok (.aload_n 0, 1) := by decide +kernel
theorem dX8_walls_1 : decode cX8_walls 1 = .ok (.getfield 135, 3) := by decide +kernel
theorem dX8_walls_4 : decode cX8_walls 4 = .ok (.ifCond .ne 6, 3) := by decide +kernel
theorem dX8_walls_7 : decode cX8_walls 7 = .ok (.ldc 166, 2) := by decide +kernel
theorem dX8_walls_9 : decode cX8_walls 9 = .ok (.ireturn, 1) := by decide +kernel
theorem dX8_walls_10 : decode cX8_walls 10 = .ok (.iload_n 1, 1) := by decide +kernel
theorem dX8_walls_11 : decode cX8_walls 11 = .ok (.i2l, 1) := by decide +kernel
theorem dX8_walls_12 : decode cX8_walls 12 = .ok (.lconst 1, 1) := by decide +kernel
theorem dX8_walls_13 : decode cX8_walls 13 = .ok (.ldc2_w 194, 3) := by decide +kernel
theorem dX8_walls_16 : decode cX8_walls 16 = .ok (.invokestatic 57, 3) := by decide +kernel
theorem dX8_walls_19 : decode cX8_walls 19 = .ok (.ifCond .eq 10, 3) := by decide +kernel
theorem dX8_walls_22 : decode cX8_walls 22 = .ok (.iload_n 2, 1) := by decide +kernel
theorem dX8_walls_23 : decode cX8_walls 23 = .ok (.invokestatic 203, 3) := by decide +kernel
theorem dX8_walls_26 : decode cX8_walls 26 = .ok (.ifCond .ne 6, 3) := by decide +kernel
theorem dX8_walls_29 : decode cX8_walls 29 = .ok (.ldc 67, 2) := by decide +kernel
theorem dX8_walls_31 : decode cX8_walls 31 = .ok (.ireturn, 1) := by decide +kernel
theorem dX8_walls_32 : decode cX8_walls 32 = .ok (.aload_n 0, 1) := by decide +kernel
theorem dX8_walls_33 : decode cX8_walls 33 = .ok (.invokevirtual 196, 3) := by decide +kernel
theorem dX8_walls_36 : decode cX8_walls 36 = .ok (.iconst 0, 1) := by decide +kernel
theorem dX8_walls_37 : decode cX8_walls 37 = .ok (.istore_n 3, 1) := by decide +kernel
theorem dX8_walls_38 : decode cX8_walls 38 = .ok (.iconst (-1), 1) := by decide +kernel
theorem dX8_walls_39 : decode cX8_walls 39 = .ok (.istore 4, 2) := by decide +kernel
theorem dX8_walls_41 : decode cX8_walls 41 = .ok (.iconst 0, 1) := by decide +kernel
theorem dX8_walls_42 : decode cX8_walls 42 = .ok (.istore 5, 2) := by decide +kernel
theorem dX8_walls_44 : decode cX8_walls 44 = .ok (.iload 5, 2) := by decide +kernel
theorem dX8_walls_46 : decode cX8_walls 46 = .ok (.iconst 1, 1) := by decide +kernel
theorem dX8_walls_47 : decode cX8_walls 47 = .ok (.aload_n 0, 1) := by decide +kernel
theorem dX8_walls_48 : decode cX8_walls 48 = .ok (.getfield 19, 3) := by decide +kernel
theorem dX8_walls_51 : decode cX8_walls 51 = .ok (.iconst 0, 1) := by decide +kernel
theorem dX8_walls_52 : decode cX8_walls 52 = .ok (.iaload, 1) := by decide +kernel
theorem dX8_walls_53 : decode cX8_walls 53 = .ok (.iconst 1, 1) := by decide +kernel
theorem dX8_walls_54 : decode cX8_walls 54 = .ok (.isub, 1) := by decide +kernel
theorem dX8_walls_55 : decode cX8_walls 55 = .ok (.ishl, 1) := by decide +kernel
theorem dX8_walls_56 : decode cX8_walls 56 = .ok (.if_icmp .ge 60, 3) := by decide +kernel
theorem dX8_walls_59 : decode cX8_walls 59 = .ok (.aload_n 0, 1) := by decide +kernel
theorem dX8_walls_60 : decode cX8_walls 60 = .ok (.getfield 19, 3) := by decide +kernel
theorem dX8_walls_63 : decode cX8_walls 63 = .ok (.iconst 4, 1) := by decide +kernel
theorem dX8_walls_64 : decode cX8_walls 64 = .ok (.iload 5, 2) := by decide +kernel
theorem dX8_walls_66 : decode cX8_walls 66 = .ok (.iastore, 1) := by decide +kernel
theorem dX8_walls_67 : decode cX8_walls 67 = .ok (.aload_n 0, 1) := by decide +kernel
theorem dX8_walls_68 : decode cX8_walls 68 = .ok (.iload_n 1, 1) := by decide +kernel
theorem dX8_walls_69 : decode cX8_walls 69 = .ok (.invokevirtual 209, 3) := by decide +kernel
theorem dX8_walls_72 : decode cX8_walls 72 = .ok (.invokestatic 215, 3) := by decide +kernel
theorem dX8_walls_75 : decode cX8_walls 75 = .ok (.istore 6, 2) := by decide +kernel
theorem dX8_walls_77 : decode cX8_walls 77 = .ok (.iload 6, 2) := by decide +kernel
theorem dX8_walls_79 : decode cX8_walls 79 = .ok (.iload 4, 2) := by decide +kernel
theorem dX8_walls_81 : decode cX8_walls 81 = .ok (.if_icmp .gt 22, 3) := by decide +kernel
theorem dX8_walls_84 : decode cX8_walls 84 = .ok (.iload 6, 2) := by decide +kernel
theorem dX8_walls_86 : decode cX8_walls 86 = .ok (.iload 4, 2) := by decide +kernel
theorem dX8_walls_88 : decode cX8_walls 88 = .ok (.if_icmp .ne 22, 3) := by decide +kernel
theorem dX8_walls_91 : decode cX8_walls 91 = .ok (.iload 5, 2) := by decide +kernel
theorem dX8_walls_93 : decode cX8_walls 93 = .ok (.invokestatic 215, 3) := by decide +kernel
theorem dX8_walls_96 : decode cX8_walls 96 = .ok (.iload_n 3, 1) := by decide +kernel
theorem dX8_walls_97 : decode cX8_walls 97 = .ok (.invokestatic 215, 3) := by decide +kernel
theorem dX8_walls_100 : decode cX8_walls 100 = .ok (.if_icmp .ge 10, 3) := by decide +kernel
theorem dX8_walls_103 : decode cX8_walls 103 = .ok (.iload 5, 2) := by decide +kernel
theorem dX8_walls_105 : decode cX8_walls 105 = .ok (.istore_n 3, 1) := by decide +kernel
theorem dX8_walls_106 : decode cX8_walls 106 = .ok (.iload 6, 2) := by decide +kernel
theorem dX8_walls_108 : decode cX8_walls 108 = .ok (.istore 4, 2) := by decide +kernel
theorem dX8_walls_110 : decode cX8_walls 110 = .ok (.iinc 5 1, 3) := by decide +kernel
theorem dX8_walls_113 : decode cX8_walls 113 = .ok (.goto (-69), 3) := by decide +kernel
theorem dX8_walls_116 : decode cX8_walls 116 = .ok (.iload_n 2, 1) := by decide +kernel
theorem dX8_walls_117 : decode cX8_walls 117 = .ok (.ifCond .ne 7, 3) := by decide +kernel
theorem dX8_walls_120 : decode cX8_walls 120 = .ok (.iload_n 3, 1) := by decide +kernel
theorem dX8_walls_121 : decode cX8_walls 121 = .ok (.goto 5, 3) := by decide +kernel
theorem dX8_walls_124 : decode cX8_walls 124 = .ok (.iload 4, 2) := by decide +kernel
theorem dX8_walls_126 : decode cX8_walls 126 = .ok (.ireturn, 1) := by decide +kernel
theorem dX8_steady_0 : decode cX8_steady 0 = .ok (.aload_n 0, 1) := by decide +kernel
theorem dX8_steady_1 : decode cX8_steady 1 = .ok (.getfield 135, 3) := by decide +kernel
theorem dX8_steady_4 : decode cX8_steady 4 = .ok (.ifCond .ne 6, 3) := by decide +kernel
theorem dX8_steady_7 : decode cX8_steady 7 = .ok (.ldc 166, 2) := by decide +kernel
theorem dX8_steady_9 : decode cX8_steady 9 = .ok (.ireturn, 1) := by decide +kernel
theorem dX8_steady_10 : decode cX8_steady 10 = .ok (.iload_n 1, 1) := by decide +kernel
theorem dX8_steady_11 : decode cX8_steady 11 = .ok (.i2l, 1) := by decide +kernel
theorem dX8_steady_12 : decode cX8_steady 12 = .ok (.lconst 1, 1) := by decide +kernel
theorem dX8_steady_13 : decode cX8_steady 13 = .ok (.ldc2_w 194, 3) := by decide +kernel
theorem dX8_steady_16 : decode cX8_steady 16 = .ok (.invokestatic 57, 3) := by decide +kernel
theorem dX8_steady_19 : decode cX8_steady 19 = .ok (.ifCond .eq 10, 3) := by decide +kernel
theorem dX8_steady_22 : decode cX8_steady 22 = .ok (.iload_n 2, 1) := by decide +kernel
theorem dX8_steady_23 : decode cX8_steady 23 = .ok (.invokestatic 203, 3) := by decide +kernel
theorem dX8_steady_26 : decode cX8_steady 26 = .ok (.ifCond .ne 6, 3) := by decide +kernel
theorem dX8_steady_29 : decode cX8_steady 29 = .ok (.ldc 67, 2) := by decide +kernel
theorem dX8_steady_31 : decode cX8_steady 31 = .ok (.ireturn, 1) := by decide +kernel
theorem dX8_steady_32 : decode cX8_steady 32 = .ok (.aload_n 0, 1) := by decide +kernel
theorem dX8_steady_33 : decode cX8_steady 33 = .ok (.invokevirtual 196, 3) := by decide +kernel
theorem dX8_steady_36 : decode cX8_steady 36 = .ok (.ldc 202, 2) := by decide +kernel
theorem dX8_steady_38 : decode cX8_steady 38 = .ok (.istore_n 3, 1) := by decide +kernel
theorem dX8_steady_39 : decode cX8_steady 39 = .ok (.ldc 202, 2) := by decide +kernel
theorem dX8_steady_41 : decode cX8_steady 41 = .ok (.istore 4, 2) := by decide +kernel
theorem dX8_steady_43 : decode cX8_steady 43 = .ok (.iconst 0, 1) := by decide +kernel
theorem dX8_steady_44 : decode cX8_steady 44 = .ok (.istore 5, 2) := by decide +kernel
theorem dX8_steady_46 : decode cX8_steady 46 = .ok (.iload 5, 2) := by decide +kernel
theorem dX8_steady_48 : decode cX8_steady 48 = .ok (.aload_n 0, 1) := by decide +kernel
theorem dX8_steady_49 : decode cX8_steady 49 = .ok (.getfield 19, 3) := by decide +kernel
theorem dX8_steady_52 : decode cX8_steady 52 = .ok (.iconst 0, 1) := by decide +kernel
theorem dX8_steady_53 : decode cX8_steady 53 = .ok (.iaload, 1) := by decide +kernel
theorem dX8_steady_54 : decode cX8_steady 54 = .ok (.if_icmp .ge 70, 3) := by decide +kernel
theorem dX8_steady_57 : decode cX8_steady 57 = .ok (.aload_n 0, 1) := by decide +kernel
theorem dX8_steady_58 : decode cX8_steady 58 = .ok (.iload 5, 2) := by decide +kernel
theorem dX8_steady_60 : decode cX8_steady 60 = .ok (.invokevirtual 142, 3) := by decide +kernel
theorem dX8_steady_63 : decode cX8_steady 63 = .ok (.ifCond .eq 55, 3) := by decide +kernel
theorem dX8_steady_66 : decode cX8_steady 66 = .ok (.aload_n 0, 1) := by decide +kernel
theorem dX8_steady_67 : decode cX8_steady 67 = .ok (.getfield 19, 3) := by decide +kernel
theorem dX8_steady_70 : decode cX8_steady 70 = .ok (.bipush 21, 2) := by decide +kernel
theorem dX8_steady_72 : decode cX8_steady 72 = .ok (.iload 5, 2) := by decide +kernel
theorem dX8_steady_74 : decode cX8_steady 74 = .ok (.iadd, 1) := by decide +kernel
theorem dX8_steady_75 : decode cX8_steady 75 = .ok (.bipush 99, 2) := by decide +kernel
theorem dX8_steady_77 : decode cX8_steady 77 = .ok (.iastore, 1) := by decide +kernel
theorem dX8_steady_78 : decode cX8_steady 78 = .ok (.aload_n 0, 1) := by decide +kernel
theorem dX8_steady_79 : decode cX8_steady 79 = .ok (.iload_n 1, 1) := by decide +kernel
theorem dX8_steady_80 : decode cX8_steady 80 = .ok (.invokevirtual 209, 3) := by decide +kernel
theorem dX8_steady_83 : decode cX8_steady 83 = .ok (.invokestatic 215, 3) := by decide +kernel
theorem dX8_steady_86 : decode cX8_steady 86 = .ok (.istore 6, 2) := by decide +kernel
theorem dX8_steady_88 : decode cX8_steady 88 = .ok (.iload 6, 2) := by decide +kernel
theorem dX8_steady_90 : decode cX8_steady 90 = .ok (.iload 4, 2) := by decide +kernel
theorem dX8_steady_92 : decode cX8_steady 92 = .ok (.if_icmp .le 8, 3) := by decide +kernel
theorem dX8_steady_95 : decode cX8_steady 95 = .ok (.iload 5, 2) := by decide +kernel
theorem dX8_steady_97 : decode cX8_steady 97 = .ok (.goto 4, 3) := by decide +kernel
theorem dX8_steady_100 : decode cX8_steady 100 = .ok (.iload_n 3, 1) := by decide +kernel
theorem dX8_steady_101 : decode cX8_steady 101 = .ok (.istore_n 3, 1) := by decide +kernel
theorem dX8_steady_102 : decode cX8_steady 102 = .ok (.iload 6, 2) := by decide +kernel
theorem dX8_steady_104 : decode cX8_steady 104 = .ok (.iload 4, 2) := by decide +kernel
theorem dX8_steady_106 : decode cX8_steady 106 = .ok (.if_icmp .le 8, 3) := by decide +kernel
theorem dX8_steady_109 : decode cX8_steady 109 = .ok (.iload 6, 2) := by decide +kernel
theorem dX8_steady_111 : decode cX8_steady 111 = .ok (.goto 5, 3) := by decide +kernel
theorem dX8_steady_114 : decode cX8_steady 114 = .ok (.iload 4, 2) := by decide +kernel
theorem dX8_steady_116 : decode cX8_steady 116 = .ok (.istore 4, 2) := by decide +kernel
theorem dX8_steady_118 : decode cX8_steady 118 = .ok (.iinc 5 1, 3) := by decide +kernel
theorem dX8_steady_121 : decode cX8_steady 121 = .ok (.goto (-75), 3) := by decide +kernel
theorem dX8_steady_124 : decode cX8_steady 124 = .ok (.iload_n 2, 1) := by decide +kernel
theorem dX8_steady_125 : decode cX8_steady 125 = .ok (.ifCond .ne 7, 3) := by decide +kernel
theorem dX8_steady_128 : decode cX8_steady 128 = .ok (.iload_n 3, 1) := by decide +kernel
theorem dX8_steady_129 : decode cX8_steady 129 = .ok (.goto 5, 3) := by decide +kernel
theorem dX8_steady_132 : decode cX8_steady 132 = .ok (.iload 4, 2) := by decide +kernel
theorem dX8_steady_134 : decode cX8_steady 134 = .ok (.ireturn, 1) := by decide +kernel
theorem dX8_lashTurns_0 : decode cX8_lashTurns 0 = .ok (.iload_n 1, 1) := by decide +kernel
theorem dX8_lashTurns_1 : decode cX8_lashTurns 1 = .ok (.istore_n 3, 1) := by decide +kernel
theorem dX8_lashTurns_2 : decode cX8_lashTurns 2 = .ok (.iload_n 2, 1) := by decide +kernel
theorem dX8_lashTurns_3 : decode cX8_lashTurns 3 = .ok (.iconst 1, 1) := by decide +kernel
theorem dX8_lashTurns_4 : decode cX8_lashTurns 4 = .ok (.isub, 1) := by decide +kernel
theorem dX8_lashTurns_5 : decode cX8_lashTurns 5 = .ok (.istore 4, 2) := by decide +kernel
theorem dX8_lashTurns_7 : decode cX8_lashTurns 7 = .ok (.iload 4, 2) := by decide +kernel
theorem dX8_lashTurns_9 : decode cX8_lashTurns 9 = .ok (.ifCond .lt 57, 3) := by decide +kernel
theorem dX8_lashTurns_12 : decode cX8_lashTurns 12 = .ok (.iload_n 3, 1) := by decide +kernel
theorem dX8_lashTurns_13 : decode cX8_lashTurns 13 = .ok (.iconst 5, 1) := by decide +kernel
theorem dX8_lashTurns_14 : decode cX8_lashTurns 14 = .ok (.irem, 1) := by decide +kernel
theorem dX8_lashTurns_15 : decode cX8_lashTurns 15 = .ok (.iconst 2, 1) := by decide +kernel
theorem dX8_lashTurns_16 : decode cX8_lashTurns 16 = .ok (.imul, 1) := by decide +kernel
theorem dX8_lashTurns_17 : decode cX8_lashTurns 17 = .ok (.iconst 2, 1) := by decide +kernel
theorem dX8_lashTurns_18 : decode cX8_lashTurns 18 = .ok (.isub, 1) := by decide +kernel
theorem dX8_lashTurns_19 : decode cX8_lashTurns 19 = .ok (.iload 4, 2) := by decide +kernel
theorem dX8_lashTurns_21 : decode cX8_lashTurns 21 = .ok (.iconst 2, 1) := by decide +kernel
theorem dX8_lashTurns_22 : decode cX8_lashTurns 22 = .ok (.irem, 1) := by decide +kernel
theorem dX8_lashTurns_23 : decode cX8_lashTurns 23 = .ok (.iadd, 1) := by decide +kernel
theorem dX8_lashTurns_24 : decode cX8_lashTurns 24 = .ok (.istore 5, 2) := by decide +kernel
theorem dX8_lashTurns_26 : decode cX8_lashTurns 26 = .ok (.iload_n 3, 1) := by decide +kernel
theorem dX8_lashTurns_27 : decode cX8_lashTurns 27 = .ok (.iconst 5, 1) := by decide +kernel
theorem dX8_lashTurns_28 : decode cX8_lashTurns 28 = .ok (.idiv, 1) := by decide +kernel
theorem dX8_lashTurns_29 : decode cX8_lashTurns 29 = .ok (.istore_n 3, 1) := by decide +kernel
theorem dX8_lashTurns_30 : decode cX8_lashTurns 30 = .ok (.aload_n 0, 1) := by decide +kernel
theorem dX8_lashTurns_31 : decode cX8_lashTurns 31 = .ok (.iload 5, 2) := by decide +kernel
theorem dX8_lashTurns_33 : decode cX8_lashTurns 33 = .ok (.invokevirtual 175, 3) := by decide +kernel
theorem dX8_lashTurns_36 : decode cX8_lashTurns 36 = .ok (.ifCond .eq 24, 3) := by decide +kernel
theorem dX8_lashTurns_39 : decode cX8_lashTurns 39 = .ok (.aload_n 0, 1) := by decide +kernel
theorem dX8_lashTurns_40 : decode cX8_lashTurns 40 = .ok (.iload 5, 2) := by decide +kernel
theorem dX8_lashTurns_42 : decode cX8_lashTurns 42 = .ok (.invokevirtual 142, 3) := by decide +kernel
theorem dX8_lashTurns_45 : decode cX8_lashTurns 45 = .ok (.ifCond .eq 15, 3) := by decide +kernel
theorem dX8_lashTurns_48 : decode cX8_lashTurns 48 = .ok (.aload_n 0, 1) := by decide +kernel
theorem dX8_lashTurns_49 : decode cX8_lashTurns 49 = .ok (.iload 5, 2) := by decide +kernel
theorem dX8_lashTurns_51 : decode cX8_lashTurns 51 = .ok (.aload_n 0, 1) := by decide +kernel
theorem dX8_lashTurns_52 : decode cX8_lashTurns 52 = .ok (.getfield 19, 3) := by decide +kernel
theorem dX8_lashTurns_55 : decode cX8_lashTurns 55 = .ok (.iconst 1, 1) := by decide +kernel
theorem dX8_lashTurns_56 : decode cX8_lashTurns 56 = .ok (.iaload, 1) := by decide +kernel
theorem dX8_lashTurns_57 : decode cX8_lashTurns 57 = .ok (.invokevirtual 178, 3) := by decide +kernel
theorem dX8_lashTurns_60 : decode cX8_lashTurns 60 = .ok (.iinc 4 (-1), 3) := by decide +kernel
theorem dX8_lashTurns_63 : decode cX8_lashTurns 63 = .ok (.goto (-56), 3) := by decide +kernel
theorem dX8_lashTurns_66 : decode cX8_lashTurns 66 = .ok (.return_, 1) := by decide +kernel
theorem dX8_boys_0 : decode cX8_boys 0 = .ok (.aload_n 0, 1) := by decide +kernel
theorem dX8_boys_1 : decode cX8_boys 1 = .ok (.getfield 135, 3) := by decide +kernel
theorem dX8_boys_4 : decode cX8_boys 4 = .ok (.ifCond .ne 6, 3) := by decide +kernel
theorem dX8_boys_7 : decode cX8_boys 7 = .ok (.ldc 166, 2) := by decide +kernel
theorem dX8_boys_9 : decode cX8_boys 9 = .ok (.ireturn, 1) := by decide +kernel
theorem dX8_boys_10 : decode cX8_boys 10 = .ok (.iload_n 1, 1) := by decide +kernel
theorem dX8_boys_11 : decode cX8_boys 11 = .ok (.i2l, 1) := by decide +kernel
theorem dX8_boys_12 : decode cX8_boys 12 = .ok (.lconst 0, 1) := by decide +kernel
theorem dX8_boys_13 : decode cX8_boys 13 = .ok (.ldc2_w 221, 3) := by decide +kernel
theorem dX8_boys_16 : decode cX8_boys 16 = .ok (.invokestatic 57, 3) := by decide +kernel
theorem dX8_boys_19 : decode cX8_boys 19 = .ok (.ifCond .eq 15, 3) := by decide +kernel
theorem dX8_boys_22 : decode cX8_boys 22 = .ok (.iload_n 2, 1) := by decide +kernel
theorem dX8_boys_23 : decode cX8_boys 23 = .ok (.i2l, 1) := by decide +kernel
theorem dX8_boys_24 : decode cX8_boys 24 = .ok (.lconst 1, 1) := by decide +kernel
theorem dX8_boys_25 : decode cX8_boys 25 = .ok (.ldc2_w 223, 3) := by decide +kernel
theorem dX8_boys_28 : decode cX8_boys 28 = .ok (.invokestatic 57, 3) := by decide +kernel
theorem dX8_boys_31 : decode cX8_boys 31 = .ok (.ifCond .ne 6, 3) := by decide +kernel
theorem dX8_boys_34 : decode cX8_boys 34 = .ok (.ldc 67, 2) := by decide +kernel
theorem dX8_boys_36 : decode cX8_boys 36 = .ok (.ireturn, 1) := by decide +kernel
theorem dX8_boys_37 : decode cX8_boys 37 = .ok (.aload_n 0, 1) := by decide +kernel
theorem dX8_boys_38 : decode cX8_boys 38 = .ok (.invokevirtual 196, 3) := by decide +kernel
theorem dX8_boys_41 : decode cX8_boys 41 = .ok (.iconst 1, 1) := by decide +kernel
theorem dX8_boys_42 : decode cX8_boys 42 = .ok (.istore_n 3, 1) := by decide +kernel
theorem dX8_boys_43 : decode cX8_boys 43 = .ok (.iconst 0, 1) := by decide +kernel
theorem dX8_boys_44 : decode cX8_boys 44 = .ok (.istore 4, 2) := by decide +kernel
theorem dX8_boys_46 : decode cX8_boys 46 = .ok (.iload 4, 2) := by decide +kernel
theorem dX8_boys_48 : decode cX8_boys 48 = .ok (.iload_n 1, 1) := by decide +kernel
theorem dX8_boys_49 : decode cX8_boys 49 = .ok (.if_icmp .ge 13, 3) := by decide +kernel
theorem dX8_boys_52 : decode cX8_boys 52 = .ok (.iload_n 3, 1) := by decide +kernel
theorem dX8_boys_53 : decode cX8_boys 53 = .ok (.iconst 5, 1) := by decide +kernel
theorem dX8_boys_54 : decode cX8_boys 54 = .ok (.imul, 1) := by decide +kernel
theorem dX8_boys_55 : decode cX8_boys 55 = .ok (.istore_n 3, 1) := by decide +kernel
theorem dX8_boys_56 : decode cX8_boys 56 = .ok (.iinc 4 1, 3) := by decide +kernel
theorem dX8_boys_59 : decode cX8_boys 59 = .ok (.goto (-13), 3) := by decide +kernel
theorem dX8_boys_62 : decode cX8_boys 62 = .ok (.iconst 0, 1) := by decide +kernel
theorem dX8_boys_63 : decode cX8_boys 63 = .ok (.istore 4, 2) := by decide +kernel
theorem dX8_boys_65 : decode cX8_boys 65 = .ok (.iload 4, 2) := by decide +kernel
theorem dX8_boys_67 : decode cX8_boys 67 = .ok (.iload_n 3, 1) := by decide +kernel
theorem dX8_boys_68 : decode cX8_boys 68 = .ok (.if_icmp .ge 45, 3) := by decide +kernel
theorem dX8_boys_71 : decode cX8_boys 71 = .ok (.aload_n 0, 1) := by decide +kernel
theorem dX8_boys_72 : decode cX8_boys 72 = .ok (.iload 4, 2) := by decide +kernel
theorem dX8_boys_74 : decode cX8_boys 74 = .ok (.iload_n 1, 1) := by decide +kernel
theorem dX8_boys_75 : decode cX8_boys 75 = .ok (.invokevirtual 225, 3) := by decide +kernel
theorem dX8_boys_78 : decode cX8_boys 78 = .ok (.aload_n 0, 1) := by decide +kernel
theorem dX8_boys_79 : decode cX8_boys 79 = .ok (.iload_n 2, 1) := by decide +kernel
theorem dX8_boys_80 : decode cX8_boys 80 = .ok (.invokevirtual 187, 3) := by decide +kernel
theorem dX8_boys_83 : decode cX8_boys 83 = .ok (.aload_n 0, 1) := by decide +kernel
theorem dX8_boys_84 : decode cX8_boys 84 = .ok (.getfield 37, 3) := by decide +kernel
theorem dX8_boys_87 : decode cX8_boys 87 = .ok (.iload 4, 2) := by decide +kernel
theorem dX8_boys_89 : decode cX8_boys 89 = .ok (.aload_n 0, 1) := by decide +kernel
theorem dX8_boys_90 : decode cX8_boys 90 = .ok (.iconst 0, 1) := by decide +kernel
theorem dX8_boys_91 : decode cX8_boys 91 = .ok (.iconst 2, 1) := by decide +kernel
theorem dX8_boys_92 : decode cX8_boys 92 = .ok (.invokevirtual 184, 3) := by decide +kernel
theorem dX8_boys_95 : decode cX8_boys 95 = .ok (.aload_n 0, 1) := by decide +kernel
theorem dX8_boys_96 : decode cX8_boys 96 = .ok (.iconst 1, 1) := by decide +kernel
theorem dX8_boys_97 : decode cX8_boys 97 = .ok (.iconst 2, 1) := by decide +kernel
theorem dX8_boys_98 : decode cX8_boys 98 = .ok (.invokevirtual 184, 3) := by decide +kernel
theorem dX8_boys_101 : decode cX8_boys 101 = .ok (.isub, 1) := by decide +kernel
theorem dX8_boys_102 : decode cX8_boys 102 = .ok (.iastore, 1) := by decide +kernel
theorem dX8_boys_103 : decode cX8_boys 103 = .ok (.aload_n 0, 1) := by decide +kernel
theorem dX8_boys_104 : decode cX8_boys 104 = .ok (.invokevirtual 191, 3) := by decide +kernel
theorem dX8_boys_107 : decode cX8_boys 107 = .ok (.iinc 4 1, 3) := by decide +kernel
theorem dX8_boys_110 : decode cX8_boys 110 = .ok (.goto (-45), 3) := by decide +kernel
theorem dX8_boys_113 : decode cX8_boys 113 = .ok (.iload_n 1, 1) := by decide +kernel
theorem dX8_boys_114 : decode cX8_boys 114 = .ok (.iconst 1, 1) := by decide +kernel
theorem dX8_boys_115 : decode cX8_boys 115 = .ok (.isub, 1) := by decide +kernel
theorem dX8_boys_116 : decode cX8_boys 116 = .ok (.istore 4, 2) := by decide +kernel
theorem dX8_boys_118 : decode cX8_boys 118 = .ok (.iload 4, 2) := by decide +kernel
theorem dX8_boys_120 : decode cX8_boys 120 = .ok (.ifCond .lt 113, 3) := by decide +kernel
theorem dX8_boys_123 : decode cX8_boys 123 = .ok (.iload_n 3, 1) := by decide +kernel
theorem dX8_boys_124 : decode cX8_boys 124 = .ok (.iconst 5, 1) := by decide +kernel
theorem dX8_boys_125 : decode cX8_boys 125 = .ok (.idiv, 1) := by decide +kernel
theorem dX8_boys_126 : decode cX8_boys 126 = .ok (.istore_n 3, 1) := by decide +kernel
theorem dX8_boys_127 : decode cX8_boys 127 = .ok (.iconst 0, 1) := by decide +kernel
theorem dX8_boys_128 : decode cX8_boys 128 = .ok (.istore 5, 2) := by decide +kernel
theorem dX8_boys_130 : decode cX8_boys 130 = .ok (.iload 5, 2) := by decide +kernel
theorem dX8_boys_132 : decode cX8_boys 132 = .ok (.iload_n 3, 1) := by decide +kernel
theorem dX8_boys_133 : decode cX8_boys 133 = .ok (.if_icmp .ge 94, 3) := by decide +kernel
theorem dX8_boys_136 : decode cX8_boys 136 = .ok (.aload_n 0, 1) := by decide +kernel
theorem dX8_boys_137 : decode cX8_boys 137 = .ok (.getfield 37, 3) := by decide +kernel
theorem dX8_boys_140 : decode cX8_boys 140 = .ok (.iconst 5, 1) := by decide +kernel
theorem dX8_boys_141 : decode cX8_boys 141 = .ok (.iload 5, 2) := by decide +kernel
theorem dX8_boys_143 : decode cX8_boys 143 = .ok (.imul, 1) := by decide +kernel
theorem dX8_boys_144 : decode cX8_boys 144 = .ok (.iaload, 1) := by decide +kernel
theorem dX8_boys_145 : decode cX8_boys 145 = .ok (.istore 6, 2) := by decide +kernel
theorem dX8_boys_147 : decode cX8_boys 147 = .ok (.iconst 1, 1) := by decide +kernel
theorem dX8_boys_148 : decode cX8_boys 148 = .ok (.istore 7, 2) := by decide +kernel
theorem dX8_boys_150 : decode cX8_boys 150 = .ok (.iload 7, 2) := by decide +kernel
theorem dX8_boys_152 : decode cX8_boys 152 = .ok (.iconst 5, 1) := by decide +kernel
theorem dX8_boys_153 : decode cX8_boys 153 = .ok (.if_icmp .ge 59, 3) := by decide +kernel
theorem dX8_boys_156 : decode cX8_boys 156 = .ok (.aload_n 0, 1) := by decide +kernel
theorem dX8_boys_157 : decode cX8_boys 157 = .ok (.getfield 37, 3) := by decide +kernel
theorem dX8_boys_160 : decode cX8_boys 160 = .ok (.iconst 5, 1) := by decide +kernel
theorem dX8_boys_161 : decode cX8_boys 161 = .ok (.iload 5, 2) := by decide +kernel
theorem dX8_boys_163 : decode cX8_boys 163 = .ok (.imul, 1) := by decide +kernel
theorem dX8_boys_164 : decode cX8_boys 164 = .ok (.iload 7, 2) := by decide +kernel
theorem dX8_boys_166 : decode cX8_boys 166 = .ok (.iadd, 1) := by decide +kernel
theorem dX8_boys_167 : decode cX8_boys 167 = .ok (.iaload, 1) := by decide +kernel
theorem dX8_boys_168 : decode cX8_boys 168 = .ok (.istore 8, 2) := by decide +kernel
theorem dX8_boys_170 : decode cX8_boys 170 = .ok (.iload 4, 2) := by decide +kernel
theorem dX8_boys_172 : decode cX8_boys 172 = .ok (.iconst 2, 1) := by decide +kernel
theorem dX8_boys_173 : decode cX8_boys 173 = .ok (.irem, 1) := by decide +kernel
theorem dX8_boys_174 : decode cX8_boys 174 = .ok (.ifCond .ne 7, 3) := by decide +kernel
theorem dX8_boys_177 : decode cX8_boys 177 = .ok (.iconst 1, 1) := by decide +kernel
theorem dX8_boys_178 : decode cX8_boys 178 = .ok (.goto 4, 3) := by decide +kernel
theorem dX8_boys_181 : decode cX8_boys 181 = .ok (.iconst 0, 1) := by decide +kernel
theorem dX8_boys_182 : decode cX8_boys 182 = .ok (.iload 8, 2) := by decide +kernel
theorem dX8_boys_184 : decode cX8_boys 184 = .ok (.iload 6, 2) := by decide +kernel
theorem dX8_boys_186 : decode cX8_boys 186 = .ok (.if_icmp .le 7, 3) := by decide +kernel
theorem dX8_boys_189 : decode cX8_boys 189 = .ok (.iconst 1, 1) := by decide +kernel
theorem dX8_boys_190 : decode cX8_boys 190 = .ok (.goto 4, 3) := by decide +kernel
theorem dX8_boys_193 : decode cX8_boys 193 = .ok (.iconst 0, 1) := by decide +kernel
theorem dX8_boys_194 : decode cX8_boys 194 = .ok (.if_icmp .ne 8, 3) := by decide +kernel
theorem dX8_boys_197 : decode cX8_boys 197 = .ok (.iload 8, 2) := by decide +kernel
theorem dX8_boys_199 : decode cX8_boys 199 = .ok (.goto 5, 3) := by decide +kernel
theorem dX8_boys_202 : decode cX8_boys 202 = .ok (.iload 6, 2) := by decide +kernel
theorem dX8_boys_204 : decode cX8_boys 204 = .ok (.istore 6, 2) := by decide +kernel
theorem dX8_boys_206 : decode cX8_boys 206 = .ok (.iinc 7 1, 3) := by decide +kernel
theorem dX8_boys_209 : decode cX8_boys 209 = .ok (.goto (-59), 3) := by decide +kernel
theorem dX8_boys_212 : decode cX8_boys 212 = .ok (.aload_n 0, 1) := by decide +kernel
theorem dX8_boys_213 : decode cX8_boys 213 = .ok (.getfield 37, 3) := by decide +kernel
theorem dX8_boys_216 : decode cX8_boys 216 = .ok (.iload 5, 2) := by decide +kernel
theorem dX8_boys_218 : decode cX8_boys 218 = .ok (.iload 6, 2) := by decide +kernel
theorem dX8_boys_220 : decode cX8_boys 220 = .ok (.iastore, 1) := by decide +kernel
theorem dX8_boys_221 : decode cX8_boys 221 = .ok (.iinc 5 1, 3) := by decide +kernel
theorem dX8_boys_224 : decode cX8_boys 224 = .ok (.goto (-94), 3) := by decide +kernel
theorem dX8_boys_227 : decode cX8_boys 227 = .ok (.iinc 4 (-1), 3) := by decide +kernel
theorem dX8_boys_230 : decode cX8_boys 230 = .ok (.goto (-112), 3) := by decide +kernel
theorem dX8_boys_233 : decode cX8_boys 233 = .ok (.aload_n 0, 1) := by decide +kernel
theorem dX8_boys_234 : decode cX8_boys 234 = .ok (.getfield 37, 3) := by decide +kernel
theorem dX8_boys_237 : decode cX8_boys 237 = .ok (.iconst 0, 1) := by decide +kernel
theorem dX8_boys_238 : decode cX8_boys 238 = .ok (.iaload, 1) := by decide +kernel
theorem dX8_boys_239 : decode cX8_boys 239 = .ok (.ireturn, 1) := by decide +kernel
theorem dX8_lackOf_0 : decode cX8_lackOf 0 = .ok (.aload_n 0, 1) := by decide +kernel
theorem dX8_lackOf_1 : decode cX8_lackOf 1 = .ok (.iload_n 1, 1) := by decide +kernel
theorem dX8_lackOf_2 : decode cX8_lackOf 2 = .ok (.invokevirtual 142, 3) := by decide +kernel
theorem dX8_lackOf_5 : decode cX8_lackOf 5 = .ok (.ifCond .eq 18, 3) := by decide +kernel
theorem dX8_lackOf_8 : decode cX8_lackOf 8 = .ok (.bipush 99, 2) := by decide +kernel
theorem dX8_lackOf_10 : decode cX8_lackOf 10 = .ok (.aload_n 0, 1) := by decide +kernel
theorem dX8_lackOf_11 : decode cX8_lackOf 11 = .ok (.getfield 19, 3) := by decide +kernel
theorem dX8_lackOf_14 : decode cX8_lackOf 14 = .ok (.bipush 21, 2) := by decide +kernel
theorem dX8_lackOf_16 : decode cX8_lackOf 16 = .ok (.iload_n 1, 1) := by decide +kernel
theorem dX8_lackOf_17 : decode cX8_lackOf 17 = .ok (.iadd, 1) := by decide +kernel
theorem dX8_lackOf_18 : decode cX8_lackOf 18 = .ok (.iaload, 1) := by decide +kernel
theorem dX8_lackOf_19 : decode cX8_lackOf 19 = .ok (.isub, 1) := by decide +kernel
theorem dX8_lackOf_20 : decode cX8_lackOf 20 = .ok (.goto 4, 3) := by decide +kernel
theorem dX8_lackOf_23 : decode cX8_lackOf 23 = .ok (.iconst 0, 1) := by decide +kernel
theorem dX8_lackOf_24 : decode cX8_lackOf 24 = .ok (.ireturn, 1) := by decide +kernel
theorem dX8_string_0 : decode cX8_string 0 = .ok (.aload_n 0, 1) := by decide +kernel
theorem dX8_string_1 : decode cX8_string 1 = .ok (.iload_n 1, 1) := by decide +kernel
theorem dX8_string_2 : decode cX8_string 2 = .ok (.invokevirtual 175, 3) := by decide +kernel
theorem dX8_string_5 : decode cX8_string 5 = .ok (.ifCond .eq 15, 3) := by decide +kernel
theorem dX8_string_8 : decode cX8_string 8 = .ok (.iload_n 2, 1) := by decide +kernel
theorem dX8_string_9 : decode cX8_string 9 = .ok (.i2l, 1) := by decide +kernel
theorem dX8_string_10 : decode cX8_string 10 = .ok (.lconst 0, 1) := by decide +kernel
theorem dX8_string_11 : decode cX8_string 11 = .ok (.ldc2_w 228, 3) := by decide +kernel
theorem dX8_string_14 : decode cX8_string 14 = .ok (.invokestatic 57, 3) := by decide +kernel
theorem dX8_string_17 : decode cX8_string 17 = .ok (.ifCond .ne 6, 3) := by decide +kernel
theorem dX8_string_20 : decode cX8_string 20 = .ok (.ldc 67, 2) := by decide +kernel
theorem dX8_string_22 : decode cX8_string 22 = .ok (.ireturn, 1) := by decide +kernel
theorem dX8_string_23 : decode cX8_string 23 = .ok (.iconst 0, 1) := by decide +kernel
theorem dX8_string_24 : decode cX8_string 24 = .ok (.istore_n 3, 1) := by decide +kernel
theorem dX8_string_25 : decode cX8_string 25 = .ok (.iconst 0, 1) := by decide +kernel
theorem dX8_string_26 : decode cX8_string 26 = .ok (.istore 4, 2) := by decide +kernel
theorem dX8_string_28 : decode cX8_string 28 = .ok (.iload 4, 2) := by decide +kernel
theorem dX8_string_30 : decode cX8_string 30 = .ok (.aload_n 0, 1) := by decide +kernel
theorem dX8_string_31 : decode cX8_string 31 = .ok (.getfield 19, 3) := by decide +kernel
theorem dX8_string_34 : decode cX8_string 34 = .ok (.iconst 0, 1) := by decide +kernel
theorem dX8_string_35 : decode cX8_string 35 = .ok (.iaload, 1) := by decide +kernel
theorem dX8_string_36 : decode cX8_string 36 = .ok (.if_icmp .ge 18, 3) := by decide +kernel
theorem dX8_string_39 : decode cX8_string 39 = .ok (.iload_n 3, 1) := by decide +kernel
theorem dX8_string_40 : decode cX8_string 40 = .ok (.aload_n 0, 1) := by decide +kernel
theorem dX8_string_41 : decode cX8_string 41 = .ok (.iload 4, 2) := by decide +kernel
theorem dX8_string_43 : decode cX8_string 43 = .ok (.invokevirtual 230, 3) := by decide +kernel
theorem dX8_string_46 : decode cX8_string 46 = .ok (.iadd, 1) := by decide +kernel
theorem dX8_string_47 : decode cX8_string 47 = .ok (.istore_n 3, 1) := by decide +kernel
theorem dX8_string_48 : decode cX8_string 48 = .ok (.iinc 4 1, 3) := by decide +kernel
theorem dX8_string_51 : decode cX8_string 51 = .ok (.goto (-23), 3) := by decide +kernel
theorem dX8_string_54 : decode cX8_string 54 = .ok (.iload_n 3, 1) := by decide +kernel
theorem dX8_string_55 : decode cX8_string 55 = .ok (.ifCond .ne 5, 3) := by decide +kernel
theorem dX8_string_58 : decode cX8_string 58 = .ok (.iconst 0, 1) := by decide +kernel
theorem dX8_string_59 : decode cX8_string 59 = .ok (.ireturn, 1) := by decide +kernel
theorem dX8_string_60 : decode cX8_string 60 = .ok (.iload_n 2, 1) := by decide +kernel
theorem dX8_string_61 : decode cX8_string 61 = .ok (.istore 4, 2) := by decide +kernel
theorem dX8_string_63 : decode cX8_string 63 = .ok (.iconst 0, 1) := by decide +kernel
theorem dX8_string_64 : decode cX8_string 64 = .ok (.istore 5, 2) := by decide +kernel
theorem dX8_string_66 : decode cX8_string 66 = .ok (.iload 5, 2) := by decide +kernel
theorem dX8_string_68 : decode cX8_string 68 = .ok (.aload_n 0, 1) := by decide +kernel
theorem dX8_string_69 : decode cX8_string 69 = .ok (.getfield 19, 3) := by decide +kernel
theorem dX8_string_72 : decode cX8_string 72 = .ok (.iconst 0, 1) := by decide +kernel
theorem dX8_string_73 : decode cX8_string 73 = .ok (.iaload, 1) := by decide +kernel
theorem dX8_string_74 : decode cX8_string 74 = .ok (.if_icmp .ge 24, 3) := by decide +kernel
theorem dX8_string_77 : decode cX8_string 77 = .ok (.iload 4, 2) := by decide +kernel
theorem dX8_string_79 : decode cX8_string 79 = .ok (.iload_n 2, 1) := by decide +kernel
theorem dX8_string_80 : decode cX8_string 80 = .ok (.aload_n 0, 1) := by decide +kernel
theorem dX8_string_81 : decode cX8_string 81 = .ok (.iload 5, 2) := by decide +kernel
theorem dX8_string_83 : decode cX8_string 83 = .ok (.invokevirtual 230, 3) := by decide +kernel
theorem dX8_string_86 : decode cX8_string 86 = .ok (.imul, 1) := by decide +kernel
theorem dX8_string_87 : decode cX8_string 87 = .ok (.iload_n 3, 1) := by decide +kernel
theorem dX8_string_88 : decode cX8_string 88 = .ok (.idiv, 1) := by decide +kernel
theorem dX8_string_89 : decode cX8_string 89 = .ok (.isub, 1) := by decide +kernel
theorem dX8_string_90 : decode cX8_string 90 = .ok (.istore 4, 2) := by decide +kernel
theorem dX8_string_92 : decode cX8_string 92 = .ok (.iinc 5 1, 3) := by decide +kernel
theorem dX8_string_95 : decode cX8_string 95 = .ok (.goto (-29), 3) := by decide +kernel
theorem dX8_string_98 : decode cX8_string 98 = .ok (.iconst 0, 1) := by decide +kernel
theorem dX8_string_99 : decode cX8_string 99 = .ok (.istore 5, 2) := by decide +kernel
theorem dX8_string_101 : decode cX8_string 101 = .ok (.iconst 0, 1) := by decide +kernel
theorem dX8_string_102 : decode cX8_string 102 = .ok (.istore 6, 2) := by decide +kernel
theorem dX8_string_104 : decode cX8_string 104 = .ok (.iload 6, 2) := by decide +kernel
theorem dX8_string_106 : decode cX8_string 106 = .ok (.iload_n 1, 1) := by decide +kernel
theorem dX8_string_107 : decode cX8_string 107 = .ok (.if_icmp .ge 28, 3) := by decide +kernel
theorem dX8_string_110 : decode cX8_string 110 = .ok (.iload 5, 2) := by decide +kernel
theorem dX8_string_112 : decode cX8_string 112 = .ok (.aload_n 0, 1) := by decide +kernel
theorem dX8_string_113 : decode cX8_string 113 = .ok (.iload 6, 2) := by decide +kernel
theorem dX8_string_115 : decode cX8_string 115 = .ok (.invokevirtual 230, 3) := by decide +kernel
theorem dX8_string_118 : decode cX8_string 118 = .ok (.ifCond .le 7, 3) := by decide +kernel
theorem dX8_string_121 : decode cX8_string 121 = .ok (.iconst 1, 1) := by decide +kernel
theorem dX8_string_122 : decode cX8_string 122 = .ok (.goto 4, 3) := by decide +kernel
theorem dX8_string_125 : decode cX8_string 125 = .ok (.iconst 0, 1) := by decide +kernel
theorem dX8_string_126 : decode cX8_string 126 = .ok (.iadd, 1) := by decide +kernel
theorem dX8_string_127 : decode cX8_string 127 = .ok (.istore 5, 2) := by decide +kernel
theorem dX8_string_129 : decode cX8_string 129 = .ok (.iinc 6 1, 3) := by decide +kernel
theorem dX8_string_132 : decode cX8_string 132 = .ok (.goto (-28), 3) := by decide +kernel
theorem dX8_string_135 : decode cX8_string 135 = .ok (.iload_n 2, 1) := by decide +kernel
theorem dX8_string_136 : decode cX8_string 136 = .ok (.aload_n 0, 1) := by decide +kernel
theorem dX8_string_137 : decode cX8_string 137 = .ok (.iload_n 1, 1) := by decide +kernel
theorem dX8_string_138 : decode cX8_string 138 = .ok (.invokevirtual 230, 3) := by decide +kernel
theorem dX8_string_141 : decode cX8_string 141 = .ok (.imul, 1) := by decide +kernel
theorem dX8_string_142 : decode cX8_string 142 = .ok (.iload_n 3, 1) := by decide +kernel
theorem dX8_string_143 : decode cX8_string 143 = .ok (.idiv, 1) := by decide +kernel
theorem dX8_string_144 : decode cX8_string 144 = .ok (.aload_n 0, 1) := by decide +kernel
theorem dX8_string_145 : decode cX8_string 145 = .ok (.iload_n 1, 1) := by decide +kernel
theorem dX8_string_146 : decode cX8_string 146 = .ok (.invokevirtual 230, 3) := by decide +kernel
theorem dX8_string_149 : decode cX8_string 149 = .ok (.ifCond .le 14, 3) := by decide +kernel
theorem dX8_string_152 : decode cX8_string 152 = .ok (.iload 5, 2) := by decide +kernel
theorem dX8_string_154 : decode cX8_string 154 = .ok (.iload 4, 2) := by decide +kernel
theorem dX8_string_156 : decode cX8_string 156 = .ok (.if_icmp .ge 7, 3) := by decide +kernel
theorem dX8_string_159 : decode cX8_string 159 = .ok (.iconst 1, 1) := by decide +kernel
theorem dX8_string_160 : decode cX8_string 160 = .ok (.goto 4, 3) := by decide +kernel
theorem dX8_string_163 : decode cX8_string 163 = .ok (.iconst 0, 1) := by decide +kernel
theorem dX8_string_164 : decode cX8_string 164 = .ok (.iadd, 1) := by decide +kernel
theorem dX8_string_165 : decode cX8_string 165 = .ok (.ireturn, 1) := by decide +kernel
theorem dX8_lacks_0 : decode cX8_lacks 0 = .ok (.aload_n 0, 1) := by decide +kernel
theorem dX8_lacks_1 : decode cX8_lacks 1 = .ok (.getfield 13, 3) := by decide +kernel
theorem dX8_lacks_4 : decode cX8_lacks 4 = .ok (.iload_n 1, 1) := by decide +kernel
theorem dX8_lacks_5 : decode cX8_lacks 5 = .ok (.iaload, 1) := by decide +kernel
theorem dX8_lacks_6 : decode cX8_lacks 6 = .ok (.ifCond .ge 9, 3) := by decide +kernel
theorem dX8_lacks_9 : decode cX8_lacks 9 = .ok (.aload_n 0, 1) := by decide +kernel
theorem dX8_lacks_10 : decode cX8_lacks 10 = .ok (.iconst 1, 1) := by decide +kernel
theorem dX8_lacks_11 : decode cX8_lacks 11 = .ok (.invokevirtual 68, 3) := by decide +kernel
theorem dX8_lacks_14 : decode cX8_lacks 14 = .ok (.ireturn, 1) := by decide +kernel
theorem dX8_lacks_15 : decode cX8_lacks 15 = .ok (.iload_n 2, 1) := by decide +kernel
theorem dX8_lacks_16 : decode cX8_lacks 16 = .ok (.i2l, 1) := by decide +kernel
theorem dX8_lacks_17 : decode cX8_lacks 17 = .ok (.lconst 0, 1) := by decide +kernel
theorem dX8_lacks_18 : decode cX8_lacks 18 = .ok (.aload_n 0, 1) := by decide +kernel
theorem dX8_lacks_19 : decode cX8_lacks 19 = .ok (.getfield 13, 3) := by decide +kernel
theorem dX8_lacks_22 : decode cX8_lacks 22 = .ok (.iload_n 1, 1) := by decide +kernel
theorem dX8_lacks_23 : decode cX8_lacks 23 = .ok (.iaload, 1) := by decide +kernel
theorem dX8_lacks_24 : decode cX8_lacks 24 = .ok (.iload_n 3, 1) := by decide +kernel
theorem dX8_lacks_25 : decode cX8_lacks 25 = .ok (.isub, 1) := by decide +kernel
theorem dX8_lacks_26 : decode cX8_lacks 26 = .ok (.i2l, 1) := by decide +kernel
theorem dX8_lacks_27 : decode cX8_lacks 27 = .ok (.invokestatic 57, 3) := by decide +kernel
theorem dX8_lacks_30 : decode cX8_lacks 30 = .ok (.ifCond .eq 7, 3) := by decide +kernel
theorem dX8_lacks_33 : decode cX8_lacks 33 = .ok (.iconst 0, 1) := by decide +kernel
theorem dX8_lacks_34 : decode cX8_lacks 34 = .ok (.goto 8, 3) := by decide +kernel
theorem dX8_lacks_37 : decode cX8_lacks 37 = .ok (.aload_n 0, 1) := by decide +kernel
theorem dX8_lacks_38 : decode cX8_lacks 38 = .ok (.iconst 2, 1) := by decide +kernel
theorem dX8_lacks_39 : decode cX8_lacks 39 = .ok (.invokevirtual 68, 3) := by decide +kernel
theorem dX8_lacks_42 : decode cX8_lacks 42 = .ok (.ireturn, 1) := by decide +kernel
theorem dX8_isSo_0 : decode cX8_isSo 0 = .ok (.iconst 1, 1) := by decide +kernel
theorem dX8_isSo_1 : decode cX8_isSo 1 = .ok (.istore 4, 2) := by decide +kernel
theorem dX8_isSo_3 : decode cX8_isSo 3 = .ok (.iconst 0, 1) := by decide +kernel
theorem dX8_isSo_4 : decode cX8_isSo 4 = .ok (.istore 5, 2) := by decide +kernel
theorem dX8_isSo_6 : decode cX8_isSo 6 = .ok (.iload 5, 2) := by decide +kernel
theorem dX8_isSo_8 : decode cX8_isSo 8 = .ok (.iload_n 3, 1) := by decide +kernel
theorem dX8_isSo_9 : decode cX8_isSo 9 = .ok (.if_icmp .ge 46, 3) := by decide +kernel
theorem dX8_isSo_12 : decode cX8_isSo 12 = .ok (.aload_n 0, 1) := by decide +kernel
theorem dX8_isSo_13 : decode cX8_isSo 13 = .ok (.invokevirtual 172, 3) := by decide +kernel
theorem dX8_isSo_16 : decode cX8_isSo 16 = .ok (.iload 4, 2) := by decide +kernel
theorem dX8_isSo_18 : decode cX8_isSo 18 = .ok (.ifCond .eq 28, 3) := by decide +kernel
theorem dX8_isSo_21 : decode cX8_isSo 21 = .ok (.aload_n 0, 1) := by decide +kernel
theorem dX8_isSo_22 : decode cX8_isSo 22 = .ok (.getfield 16, 3) := by decide +kernel
theorem dX8_isSo_25 : decode cX8_isSo 25 = .ok (.iload_n 2, 1) := by decide +kernel
theorem dX8_isSo_26 : decode cX8_isSo 26 = .ok (.iload 5, 2) := by decide +kernel
theorem dX8_isSo_28 : decode cX8_isSo 28 = .ok (.iadd, 1) := by decide +kernel
theorem dX8_isSo_29 : decode cX8_isSo 29 = .ok (.iaload, 1) := by decide +kernel
theorem dX8_isSo_30 : decode cX8_isSo 30 = .ok (.aload_n 0, 1) := by decide +kernel
theorem dX8_isSo_31 : decode cX8_isSo 31 = .ok (.getfield 19, 3) := by decide +kernel
theorem dX8_isSo_34 : decode cX8_isSo 34 = .ok (.bipush 21, 2) := by decide +kernel
theorem dX8_isSo_36 : decode cX8_isSo 36 = .ok (.iload_n 1, 1) := by decide +kernel
theorem dX8_isSo_37 : decode cX8_isSo 37 = .ok (.iadd, 1) := by decide +kernel
theorem dX8_isSo_38 : decode cX8_isSo 38 = .ok (.iaload, 1) := by decide +kernel
theorem dX8_isSo_39 : decode cX8_isSo 39 = .ok (.if_icmp .ne 7, 3) := by decide +kernel
theorem dX8_isSo_42 : decode cX8_isSo 42 = .ok (.iconst 1, 1) := by decide +kernel
theorem dX8_isSo_43 : decode cX8_isSo 43 = .ok (.goto 4, 3) := by decide +kernel
theorem dX8_isSo_46 : decode cX8_isSo 46 = .ok (.iconst 0, 1) := by decide +kernel
theorem dX8_isSo_47 : decode cX8_isSo 47 = .ok (.istore 4, 2) := by decide +kernel
theorem dX8_isSo_49 : decode cX8_isSo 49 = .ok (.iinc 5 1, 3) := by decide +kernel
theorem dX8_isSo_52 : decode cX8_isSo 52 = .ok (.goto (-46), 3) := by decide +kernel
theorem dX8_isSo_55 : decode cX8_isSo 55 = .ok (.aload_n 0, 1) := by decide +kernel
theorem dX8_isSo_56 : decode cX8_isSo 56 = .ok (.invokevirtual 191, 3) := by decide +kernel
theorem dX8_isSo_59 : decode cX8_isSo 59 = .ok (.iload 4, 2) := by decide +kernel
theorem dX8_isSo_61 : decode cX8_isSo 61 = .ok (.ireturn, 1) := by decide +kernel
theorem dX8_spinsBy_0 : decode cX8_spinsBy 0 = .ok (.iconst 0, 1) := by decide +kernel
theorem dX8_spinsBy_1 : decode cX8_spinsBy 1 = .ok (.istore 5, 2) := by decide +kernel
theorem dX8_spinsBy_3 : decode cX8_spinsBy 3 = .ok (.ldc 202, 2) := by decide +kernel
theorem dX8_spinsBy_5 : decode cX8_spinsBy 5 = .ok (.istore 6, 2) := by decide +kernel
theorem dX8_spinsBy_7 : decode cX8_spinsBy 7 = .ok (.ldc 202, 2) := by decide +kernel
theorem dX8_spinsBy_9 : decode cX8_spinsBy 9 = .ok (.istore 7, 2) := by decide +kernel
theorem dX8_spinsBy_11 : decode cX8_spinsBy 11 = .ok (.iconst 0, 1) := by decide +kernel
theorem dX8_spinsBy_12 : decode cX8_spinsBy 12 = .ok (.istore 8, 2) := by decide +kernel
theorem dX8_spinsBy_14 : decode cX8_spinsBy 14 = .ok (.iload 8, 2) := by decide +kernel
theorem dX8_spinsBy_16 : decode cX8_spinsBy 16 = .ok (.bipush 99, 2) := by decide +kernel
theorem dX8_spinsBy_18 : decode cX8_spinsBy 18 = .ok (.if_icmp .gt 52, 3) := by decide +kernel
theorem dX8_spinsBy_21 : decode cX8_spinsBy 21 = .ok (.aload_n 0, 1) := by decide +kernel
theorem dX8_spinsBy_22 : decode cX8_spinsBy 22 = .ok (.getfield 19, 3) := by decide +kernel
theorem dX8_spinsBy_25 : decode cX8_spinsBy 25 = .ok (.bipush 21, 2) := by decide +kernel
theorem dX8_spinsBy_27 : decode cX8_spinsBy 27 = .ok (.iload_n 1, 1) := by decide +kernel
theorem dX8_spinsBy_28 : decode cX8_spinsBy 28 = .ok (.iadd, 1) := by decide +kernel
theorem dX8_spinsBy_29 : decode cX8_spinsBy 29 = .ok (.iload 8, 2) := by decide +kernel
theorem dX8_spinsBy_31 : decode cX8_spinsBy 31 = .ok (.iastore, 1) := by decide +kernel
theorem dX8_spinsBy_32 : decode cX8_spinsBy 32 = .ok (.aload_n 0, 1) := by decide +kernel
theorem dX8_spinsBy_33 : decode cX8_spinsBy 33 = .ok (.iload_n 1, 1) := by decide +kernel
theorem dX8_spinsBy_34 : decode cX8_spinsBy 34 = .ok (.iload_n 3, 1) := by decide +kernel
theorem dX8_spinsBy_35 : decode cX8_spinsBy 35 = .ok (.iload 4, 2) := by decide +kernel
theorem dX8_spinsBy_37 : decode cX8_spinsBy 37 = .ok (.invokevirtual 233, 3) := by decide +kernel
theorem dX8_spinsBy_40 : decode cX8_spinsBy 40 = .ok (.ifCond .eq 24, 3) := by decide +kernel
theorem dX8_spinsBy_43 : decode cX8_spinsBy 43 = .ok (.iinc 5 1, 3) := by decide +kernel
theorem dX8_spinsBy_46 : decode cX8_spinsBy 46 = .ok (.iload 6, 2) := by decide +kernel
theorem dX8_spinsBy_48 : decode cX8_spinsBy 48 = .ok (.ifCond .ge 8, 3) := by decide +kernel
theorem dX8_spinsBy_51 : decode cX8_spinsBy 51 = .ok (.iload 8, 2) := by decide +kernel
theorem dX8_spinsBy_53 : decode cX8_spinsBy 53 = .ok (.goto 5, 3) := by decide +kernel
theorem dX8_spinsBy_56 : decode cX8_spinsBy 56 = .ok (.iload 6, 2) := by decide +kernel
theorem dX8_spinsBy_58 : decode cX8_spinsBy 58 = .ok (.istore 6, 2) := by decide +kernel
theorem dX8_spinsBy_60 : decode cX8_spinsBy 60 = .ok (.iload 8, 2) := by decide +kernel
theorem dX8_spinsBy_62 : decode cX8_spinsBy 62 = .ok (.istore 7, 2) := by decide +kernel
theorem dX8_spinsBy_64 : decode cX8_spinsBy 64 = .ok (.iinc 8 1, 3) := by decide +kernel
theorem dX8_spinsBy_67 : decode cX8_spinsBy 67 = .ok (.goto (-53), 3) := by decide +kernel
theorem dX8_spinsBy_70 : decode cX8_spinsBy 70 = .ok (.aload_n 0, 1) := by decide +kernel
theorem dX8_spinsBy_71 : decode cX8_spinsBy 71 = .ok (.iload_n 2, 1) := by decide +kernel
theorem dX8_spinsBy_72 : decode cX8_spinsBy 72 = .ok (.iconst 2, 1) := by decide +kernel
theorem dX8_spinsBy_73 : decode cX8_spinsBy 73 = .ok (.if_icmp .ne 8, 3) := by decide +kernel
theorem dX8_spinsBy_76 : decode cX8_spinsBy 76 = .ok (.iload 5, 2) := by decide +kernel
theorem dX8_spinsBy_78 : decode cX8_spinsBy 78 = .ok (.goto 15, 3) := by decide +kernel
theorem dX8_spinsBy_81 : decode cX8_spinsBy 81 = .ok (.iload_n 2, 1) := by decide +kernel
theorem dX8_spinsBy_82 : decode cX8_spinsBy 82 = .ok (.iconst 3, 1) := by decide +kernel
theorem dX8_spinsBy_83 : decode cX8_spinsBy 83 = .ok (.if_icmp .ne 8, 3) := by decide +kernel
theorem dX8_spinsBy_86 : decode cX8_spinsBy 86 = .ok (.iload 6, 2) := by decide +kernel
theorem dX8_spinsBy_88 : decode cX8_spinsBy 88 = .ok (.goto 5, 3) := by decide +kernel
theorem dX8_spinsBy_91 : decode cX8_spinsBy 91 = .ok (.iload 7, 2) := by decide +kernel
theorem dX8_spinsBy_93 : decode cX8_spinsBy 93 = .ok (.invokevirtual 72, 3) := by decide +kernel
theorem dX8_spinsBy_96 : decode cX8_spinsBy 96 = .ok (.ireturn, 1) := by decide +kernel
theorem dX8_who_0 : decode cX8_who 0 = .ok (.aload_n 0, 1) := by decide +kernel
theorem dX8_who_1 : decode cX8_who 1 = .ok (.iload_n 1, 1) := by decide +kernel
theorem dX8_who_2 : decode cX8_who 2 = .ok (.invokevirtual 175, 3) := by decide +kernel
theorem dX8_who_5 : decode cX8_who 5 = .ok (.ifCond .eq 35, 3) := by decide +kernel
theorem dX8_who_8 : decode cX8_who 8 = .ok (.iload_n 2, 1) := by decide +kernel
theorem dX8_who_9 : decode cX8_who 9 = .ok (.i2l, 1) := by decide +kernel
theorem dX8_who_10 : decode cX8_who 10 = .ok (.lconst 0, 1) := by decide +kernel
theorem dX8_who_11 : decode cX8_who 11 = .ok (.ldc2_w 221, 3) := by decide +kernel
theorem dX8_who_14 : decode cX8_who 14 = .ok (.invokestatic 57, 3) := by decide +kernel
theorem dX8_who_17 : decode cX8_who 17 = .ok (.ifCond .eq 23, 3) := by decide +kernel
theorem dX8_who_20 : decode cX8_who 20 = .ok (.iload_n 3, 1) := by decide +kernel
theorem dX8_who_21 : decode cX8_who 21 = .ok (.invokestatic 61, 3) := by decide +kernel
theorem dX8_who_24 : decode cX8_who 24 = .ok (.ifCond .eq 16, 3) := by decide +kernel
theorem dX8_who_27 : decode cX8_who 27 = .ok (.iload 5, 2) := by decide +kernel
theorem dX8_who_29 : decode cX8_who 29 = .ok (.i2l, 1) := by decide +kernel
theorem dX8_who_30 : decode cX8_who 30 = .ok (.lconst 1, 1) := by decide +kernel
theorem dX8_who_31 : decode cX8_who 31 = .ok (.ldc2_w 237, 3) := by decide +kernel
theorem dX8_who_34 : decode cX8_who 34 = .ok (.invokestatic 57, 3) := by decide +kernel
theorem dX8_who_37 : decode cX8_who 37 = .ok (.ifCond .ne 8, 3) := by decide +kernel
theorem dX8_who_40 : decode cX8_who 40 = .ok (.ldc 67, 2) := by decide +kernel
theorem dX8_who_42 : decode cX8_who 42 = .ok (.goto 12, 3) := by decide +kernel
theorem dX8_who_45 : decode cX8_who 45 = .ok (.aload_n 0, 1) := by decide +kernel
theorem dX8_who_46 : decode cX8_who 46 = .ok (.iload_n 3, 1) := by decide +kernel
theorem dX8_who_47 : decode cX8_who 47 = .ok (.iload 4, 2) := by decide +kernel
theorem dX8_who_49 : decode cX8_who 49 = .ok (.iload 5, 2) := by decide +kernel
theorem dX8_who_51 : decode cX8_who 51 = .ok (.invokevirtual 239, 3) := by decide +kernel
theorem dX8_who_54 : decode cX8_who 54 = .ok (.istore 6, 2) := by decide +kernel
theorem dX8_who_56 : decode cX8_who 56 = .ok (.iload 6, 2) := by decide +kernel
theorem dX8_who_58 : decode cX8_who 58 = .ok (.ifCond .ge 6, 3) := by decide +kernel
theorem dX8_who_61 : decode cX8_who 61 = .ok (.iload 6, 2) := by decide +kernel
theorem dX8_who_63 : decode cX8_who 63 = .ok (.ireturn, 1) := by decide +kernel
theorem dX8_who_64 : decode cX8_who 64 = .ok (.aload_n 0, 1) := by decide +kernel
theorem dX8_who_65 : decode cX8_who 65 = .ok (.invokevirtual 196, 3) := by decide +kernel
theorem dX8_who_68 : decode cX8_who 68 = .ok (.iload_n 2, 1) := by decide +kernel
theorem dX8_who_69 : decode cX8_who 69 = .ok (.iconst 1, 1) := by decide +kernel
theorem dX8_who_70 : decode cX8_who 70 = .ok (.if_icmp .le 19, 3) := by decide +kernel
theorem dX8_who_73 : decode cX8_who 73 = .ok (.aload_n 0, 1) := by decide +kernel
theorem dX8_who_74 : decode cX8_who 74 = .ok (.iload_n 1, 1) := by decide +kernel
theorem dX8_who_75 : decode cX8_who 75 = .ok (.iload_n 2, 1) := by decide +kernel
theorem dX8_who_76 : decode cX8_who 76 = .ok (.bipush 40, 2) := by decide +kernel
theorem dX8_who_78 : decode cX8_who 78 = .ok (.iload_n 3, 1) := by decide +kernel
theorem dX8_who_79 : decode cX8_who 79 = .ok (.imul, 1) := by decide +kernel
theorem dX8_who_80 : decode cX8_who 80 = .ok (.iload 4, 2) := by decide +kernel
theorem dX8_who_82 : decode cX8_who 82 = .ok (.iadd, 1) := by decide +kernel
theorem dX8_who_83 : decode cX8_who 83 = .ok (.iload 5, 2) := by decide +kernel
theorem dX8_who_85 : decode cX8_who 85 = .ok (.invokevirtual 243, 3) := by decide +kernel
theorem dX8_who_88 : decode cX8_who 88 = .ok (.ireturn, 1) := by decide +kernel
theorem dX8_who_89 : decode cX8_who 89 = .ok (.iload_n 2, 1) := by decide +kernel
theorem dX8_who_90 : decode cX8_who 90 = .ok (.ifCond .ne 9, 3) := by decide +kernel
theorem dX8_who_93 : decode cX8_who 93 = .ok (.iconst 5, 1) := by decide +kernel
theorem dX8_who_94 : decode cX8_who 94 = .ok (.iload_n 1, 1) := by decide +kernel
theorem dX8_who_95 : decode cX8_who 95 = .ok (.iadd, 1) := by decide +kernel
theorem dX8_who_96 : decode cX8_who 96 = .ok (.goto 7, 3) := by decide +kernel
theorem dX8_who_99 : decode cX8_who 99 = .ok (.bipush 13, 2) := by decide +kernel
theorem dX8_who_101 : decode cX8_who 101 = .ok (.iload_n 1, 1) := by decide +kernel
theorem dX8_who_102 : decode cX8_who 102 = .ok (.iadd, 1) := by decide +kernel
theorem dX8_who_103 : decode cX8_who 103 = .ok (.istore 7, 2) := by decide +kernel
theorem dX8_who_105 : decode cX8_who 105 = .ok (.iconst 0, 1) := by decide +kernel
theorem dX8_who_106 : decode cX8_who 106 = .ok (.istore 8, 2) := by decide +kernel
theorem dX8_who_108 : decode cX8_who 108 = .ok (.iconst 1, 1) := by decide +kernel
theorem dX8_who_109 : decode cX8_who 109 = .ok (.istore 9, 2) := by decide +kernel
theorem dX8_who_111 : decode cX8_who 111 = .ok (.iload 9, 2) := by decide +kernel
theorem dX8_who_113 : decode cX8_who 113 = .ok (.iload_n 2, 1) := by decide +kernel
theorem dX8_who_114 : decode cX8_who 114 = .ok (.ifCond .ne 7, 3) := by decide +kernel
theorem dX8_who_117 : decode cX8_who 117 = .ok (.iconst 5, 1) := by decide +kernel
theorem dX8_who_118 : decode cX8_who 118 = .ok (.goto 5, 3) := by decide +kernel
theorem dX8_who_121 : decode cX8_who 121 = .ok (.bipush 9, 2) := by decide +kernel
theorem dX8_who_123 : decode cX8_who 123 = .ok (.if_icmp .gt 48, 3) := by decide +kernel
theorem dX8_who_126 : decode cX8_who 126 = .ok (.aload_n 0, 1) := by decide +kernel
theorem dX8_who_127 : decode cX8_who 127 = .ok (.getfield 19, 3) := by decide +kernel
theorem dX8_who_130 : decode cX8_who 130 = .ok (.iload 7, 2) := by decide +kernel
theorem dX8_who_132 : decode cX8_who 132 = .ok (.iload 9, 2) := by decide +kernel
theorem dX8_who_134 : decode cX8_who 134 = .ok (.iastore, 1) := by decide +kernel
theorem dX8_who_135 : decode cX8_who 135 = .ok (.iload 8, 2) := by decide +kernel
theorem dX8_who_137 : decode cX8_who 137 = .ok (.aload_n 0, 1) := by decide +kernel
theorem dX8_who_138 : decode cX8_who 138 = .ok (.iload_n 1, 1) := by decide +kernel
theorem dX8_who_139 : decode cX8_who 139 = .ok (.bipush 40, 2) := by decide +kernel
theorem dX8_who_141 : decode cX8_who 141 = .ok (.iload_n 3, 1) := by decide +kernel
theorem dX8_who_142 : decode cX8_who 142 = .ok (.imul, 1) := by decide +kernel
theorem dX8_who_143 : decode cX8_who 143 = .ok (.iload 4, 2) := by decide +kernel
theorem dX8_who_145 : decode cX8_who 145 = .ok (.iadd, 1) := by decide +kernel
theorem dX8_who_146 : decode cX8_who 146 = .ok (.iload 5, 2) := by decide +kernel
theorem dX8_who_148 : decode cX8_who 148 = .ok (.invokevirtual 233, 3) := by decide +kernel
theorem dX8_who_151 : decode cX8_who 151 = .ok (.ifCond .eq 10, 3) := by decide +kernel
theorem dX8_who_154 : decode cX8_who 154 = .ok (.iconst 1, 1) := by decide +kernel
theorem dX8_who_155 : decode cX8_who 155 = .ok (.iload 9, 2) := by decide +kernel
theorem dX8_who_157 : decode cX8_who 157 = .ok (.ishl, 1) := by decide +kernel
theorem dX8_who_158 : decode cX8_who 158 = .ok (.goto 4, 3) := by decide +kernel
theorem dX8_who_161 : decode cX8_who 161 = .ok (.iconst 0, 1) := by decide +kernel
theorem dX8_who_162 : decode cX8_who 162 = .ok (.ior, 1) := by decide +kernel
theorem dX8_who_163 : decode cX8_who 163 = .ok (.istore 8, 2) := by decide +kernel
theorem dX8_who_165 : decode cX8_who 165 = .ok (.iinc 9 1, 3) := by decide +kernel
theorem dX8_who_168 : decode cX8_who 168 = .ok (.goto (-57), 3) := by decide +kernel
theorem dX8_who_171 : decode cX8_who 171 = .ok (.aload_n 0, 1) := by decide +kernel
theorem dX8_who_172 : decode cX8_who 172 = .ok (.iload 8, 2) := by decide +kernel
theorem dX8_who_174 : decode cX8_who 174 = .ok (.invokevirtual 72, 3) := by decide +kernel
theorem dX8_who_177 : decode cX8_who 177 = .ok (.ireturn, 1) := by decide +kernel
theorem dX8_finger_0 : decode cX8_finger 0 = .ok (.aload_n 0, 1) := by decide +kernel
theorem dX8_finger_1 : decode cX8_finger 1 = .ok (.iload_n 1, 1) := by decide +kernel
theorem dX8_finger_2 : decode cX8_finger 2 = .ok (.invokevirtual 175, 3) := by decide +kernel
theorem dX8_finger_5 : decode cX8_finger 5 = .ok (.ifCond .eq 23, 3) := by decide +kernel
theorem dX8_finger_8 : decode cX8_finger 8 = .ok (.iload_n 2, 1) := by decide +kernel
theorem dX8_finger_9 : decode cX8_finger 9 = .ok (.invokestatic 61, 3) := by decide +kernel
theorem dX8_finger_12 : decode cX8_finger 12 = .ok (.ifCond .eq 16, 3) := by decide +kernel
theorem dX8_finger_15 : decode cX8_finger 15 = .ok (.iload 4, 2) := by decide +kernel
theorem dX8_finger_17 : decode cX8_finger 17 = .ok (.i2l, 1) := by decide +kernel
theorem dX8_finger_18 : decode cX8_finger 18 = .ok (.lconst 1, 1) := by decide +kernel
theorem dX8_finger_19 : decode cX8_finger 19 = .ok (.ldc2_w 237, 3) := by decide +kernel
theorem dX8_finger_22 : decode cX8_finger 22 = .ok (.invokestatic 57, 3) := by decide +kernel
theorem dX8_finger_25 : decode cX8_finger 25 = .ok (.ifCond .ne 8, 3) := by decide +kernel
theorem dX8_finger_28 : decode cX8_finger 28 = .ok (.ldc 67, 2) := by decide +kernel
theorem dX8_finger_30 : decode cX8_finger 30 = .ok (.goto 11, 3) := by decide +kernel
theorem dX8_finger_33 : decode cX8_finger 33 = .ok (.aload_n 0, 1) := by decide +kernel
theorem dX8_finger_34 : decode cX8_finger 34 = .ok (.iload_n 2, 1) := by decide +kernel
theorem dX8_finger_35 : decode cX8_finger 35 = .ok (.iload_n 3, 1) := by decide +kernel
theorem dX8_finger_36 : decode cX8_finger 36 = .ok (.iload 4, 2) := by decide +kernel
theorem dX8_finger_38 : decode cX8_finger 38 = .ok (.invokevirtual 239, 3) := by decide +kernel
theorem dX8_finger_41 : decode cX8_finger 41 = .ok (.istore 5, 2) := by decide +kernel
theorem dX8_finger_43 : decode cX8_finger 43 = .ok (.iload 5, 2) := by decide +kernel
theorem dX8_finger_45 : decode cX8_finger 45 = .ok (.ifCond .ge 6, 3) := by decide +kernel
theorem dX8_finger_48 : decode cX8_finger 48 = .ok (.iload 5, 2) := by decide +kernel
theorem dX8_finger_50 : decode cX8_finger 50 = .ok (.ireturn, 1) := by decide +kernel
theorem dX8_finger_51 : decode cX8_finger 51 = .ok (.aload_n 0, 1) := by decide +kernel
theorem dX8_finger_52 : decode cX8_finger 52 = .ok (.invokevirtual 196, 3) := by decide +kernel
theorem dX8_finger_55 : decode cX8_finger 55 = .ok (.aload_n 0, 1) := by decide +kernel
theorem dX8_finger_56 : decode cX8_finger 56 = .ok (.iload_n 1, 1) := by decide +kernel
theorem dX8_finger_57 : decode cX8_finger 57 = .ok (.bipush 40, 2) := by decide +kernel
theorem dX8_finger_59 : decode cX8_finger 59 = .ok (.iload_n 2, 1) := by decide +kernel
theorem dX8_finger_60 : decode cX8_finger 60 = .ok (.imul, 1) := by decide +kernel
theorem dX8_finger_61 : decode cX8_finger 61 = .ok (.iload_n 3, 1) := by decide +kernel
theorem dX8_finger_62 : decode cX8_finger 62 = .ok (.iadd, 1) := by decide +kernel
theorem dX8_finger_63 : decode cX8_finger 63 = .ok (.iload 4, 2) := by decide +kernel
theorem dX8_finger_65 : decode cX8_finger 65 = .ok (.invokevirtual 233, 3) := by decide +kernel
theorem dX8_finger_68 : decode cX8_finger 68 = .ok (.ifCond .eq 9, 3) := by decide +kernel
theorem dX8_finger_71 : decode cX8_finger 71 = .ok (.sipush 256, 3) := by decide +kernel
theorem dX8_finger_74 : decode cX8_finger 74 = .ok (.goto 4, 3) := by decide +kernel
theorem dX8_finger_77 : decode cX8_finger 77 = .ok (.iconst 0, 1) := by decide +kernel
theorem dX8_finger_78 : decode cX8_finger 78 = .ok (.istore 6, 2) := by decide +kernel
theorem dX8_finger_80 : decode cX8_finger 80 = .ok (.iconst 0, 1) := by decide +kernel
theorem dX8_finger_81 : decode cX8_finger 81 = .ok (.istore 7, 2) := by decide +kernel
theorem dX8_finger_83 : decode cX8_finger 83 = .ok (.iload 7, 2) := by decide +kernel
theorem dX8_finger_85 : decode cX8_finger 85 = .ok (.aload_n 0, 1) := by decide +kernel
theorem dX8_finger_86 : decode cX8_finger 86 = .ok (.getfield 19, 3) := by decide +kernel
theorem dX8_finger_89 : decode cX8_finger 89 = .ok (.iconst 0, 1) := by decide +kernel
theorem dX8_finger_90 : decode cX8_finger 90 = .ok (.iaload, 1) := by decide +kernel
theorem dX8_finger_91 : decode cX8_finger 91 = .ok (.if_icmp .ge 61, 3) := by decide +kernel
theorem dX8_finger_94 : decode cX8_finger 94 = .ok (.aload_n 0, 1) := by decide +kernel
theorem dX8_finger_95 : decode cX8_finger 95 = .ok (.iload 7, 2) := by decide +kernel
theorem dX8_finger_97 : decode cX8_finger 97 = .ok (.invokevirtual 142, 3) := by decide +kernel
theorem dX8_finger_100 : decode cX8_finger 100 = .ok (.ifCond .eq 46, 3) := by decide +kernel
theorem dX8_finger_103 : decode cX8_finger 103 = .ok (.aload_n 0, 1) := by decide +kernel
theorem dX8_finger_104 : decode cX8_finger 104 = .ok (.getfield 19, 3) := by decide +kernel
theorem dX8_finger_107 : decode cX8_finger 107 = .ok (.bipush 21, 2) := by decide +kernel
theorem dX8_finger_109 : decode cX8_finger 109 = .ok (.iload 7, 2) := by decide +kernel
theorem dX8_finger_111 : decode cX8_finger 111 = .ok (.iadd, 1) := by decide +kernel
theorem dX8_finger_112 : decode cX8_finger 112 = .ok (.dup2, 1) := by decide +kernel
theorem dX8_finger_113 : decode cX8_finger 113 = .ok (.iaload, 1) := by decide +kernel
theorem dX8_finger_114 : decode cX8_finger 114 = .ok (.iconst 2, 1) := by decide +kernel
theorem dX8_finger_115 : decode cX8_finger 115 = .ok (.idiv, 1) := by decide +kernel
theorem dX8_finger_116 : decode cX8_finger 116 = .ok (.iastore, 1) := by decide +kernel
theorem dX8_finger_117 : decode cX8_finger 117 = .ok (.iload 6, 2) := by decide +kernel
theorem dX8_finger_119 : decode cX8_finger 119 = .ok (.aload_n 0, 1) := by decide +kernel
theorem dX8_finger_120 : decode cX8_finger 120 = .ok (.iload_n 1, 1) := by decide +kernel
theorem dX8_finger_121 : decode cX8_finger 121 = .ok (.bipush 40, 2) := by decide +kernel
theorem dX8_finger_123 : decode cX8_finger 123 = .ok (.iload_n 2, 1) := by decide +kernel
theorem dX8_finger_124 : decode cX8_finger 124 = .ok (.imul, 1) := by decide +kernel
theorem dX8_finger_125 : decode cX8_finger 125 = .ok (.iload_n 3, 1) := by decide +kernel
theorem dX8_finger_126 : decode cX8_finger 126 = .ok (.iadd, 1) := by decide +kernel
theorem dX8_finger_127 : decode cX8_finger 127 = .ok (.iload 4, 2) := by decide +kernel
theorem dX8_finger_129 : decode cX8_finger 129 = .ok (.invokevirtual 233, 3) := by decide +kernel
theorem dX8_finger_132 : decode cX8_finger 132 = .ok (.ifCond .eq 10, 3) := by decide +kernel
theorem dX8_finger_135 : decode cX8_finger 135 = .ok (.iconst 1, 1) := by decide +kernel
theorem dX8_finger_136 : decode cX8_finger 136 = .ok (.iload 7, 2) := by decide +kernel
theorem dX8_finger_138 : decode cX8_finger 138 = .ok (.ishl, 1) := by decide +kernel
theorem dX8_finger_139 : decode cX8_finger 139 = .ok (.goto 4, 3) := by decide +kernel
theorem dX8_finger_142 : decode cX8_finger 142 = .ok (.iconst 0, 1) := by decide +kernel
theorem dX8_finger_143 : decode cX8_finger 143 = .ok (.ior, 1) := by decide +kernel
theorem dX8_finger_144 : decode cX8_finger 144 = .ok (.istore 6, 2) := by decide +kernel
theorem dX8_finger_146 : decode cX8_finger 146 = .ok (.iinc 7 1, 3) := by decide +kernel
theorem dX8_finger_149 : decode cX8_finger 149 = .ok (.goto (-66), 3) := by decide +kernel
theorem dX8_finger_152 : decode cX8_finger 152 = .ok (.aload_n 0, 1) := by decide +kernel
theorem dX8_finger_153 : decode cX8_finger 153 = .ok (.iload 6, 2) := by decide +kernel
theorem dX8_finger_155 : decode cX8_finger 155 = .ok (.invokevirtual 72, 3) := by decide +kernel
theorem dX8_finger_158 : decode cX8_finger 158 = .ok (.ireturn, 1) := by decide +kernel
theorem dX8_lashes_0 : decode cX8_lashes 0 = .ok (.aload_n 0, 1) := by decide +kernel
theorem dX8_lashes_1 : decode cX8_lashes 1 = .ok (.iload_n 1, 1) := by decide +kernel
theorem dX8_lashes_2 : decode cX8_lashes 2 = .ok (.invokevirtual 175, 3) := by decide +kernel
theorem dX8_lashes_5 : decode cX8_lashes 5 = .ok (.ifCond .eq 31, 3) := by decide +kernel
theorem dX8_lashes_8 : decode cX8_lashes 8 = .ok (.aload_n 0, 1) := by decide +kernel
theorem dX8_lashes_9 : decode cX8_lashes 9 = .ok (.iload_n 2, 1) := by decide +kernel
theorem dX8_lashes_10 : decode cX8_lashes 10 = .ok (.invokevirtual 175, 3) := by decide +kernel
theorem dX8_lashes_13 : decode cX8_lashes 13 = .ok (.ifCond .eq 23, 3) := by decide +kernel
theorem dX8_lashes_16 : decode cX8_lashes 16 = .ok (.iload_n 3, 1) := by decide +kernel
theorem dX8_lashes_17 : decode cX8_lashes 17 = .ok (.invokestatic 61, 3) := by decide +kernel
theorem dX8_lashes_20 : decode cX8_lashes 20 = .ok (.ifCond .eq 16, 3) := by decide +kernel
theorem dX8_lashes_23 : decode cX8_lashes 23 = .ok (.iload 5, 2) := by decide +kernel
theorem dX8_lashes_25 : decode cX8_lashes 25 = .ok (.i2l, 1) := by decide +kernel
theorem dX8_lashes_26 : decode cX8_lashes 26 = .ok (.lconst 1, 1) := by decide +kernel
theorem dX8_lashes_27 : decode cX8_lashes 27 = .ok (.ldc2_w 237, 3) := by decide +kernel
theorem dX8_lashes_30 : decode cX8_lashes 30 = .ok (.invokestatic 57, 3) := by decide +kernel
theorem dX8_lashes_33 : decode cX8_lashes 33 = .ok (.ifCond .ne 6, 3) := by decide +kernel
theorem dX8_lashes_36 : decode cX8_lashes 36 = .ok (.ldc 67, 2) := by decide +kernel
theorem dX8_lashes_38 : decode cX8_lashes 38 = .ok (.ireturn, 1) := by decide +kernel
theorem dX8_lashes_39 : decode cX8_lashes 39 = .ok (.aload_n 0, 1) := by decide +kernel
theorem dX8_lashes_40 : decode cX8_lashes 40 = .ok (.iload_n 2, 1) := by decide +kernel
theorem dX8_lashes_41 : decode cX8_lashes 41 = .ok (.invokevirtual 142, 3) := by decide +kernel
theorem dX8_lashes_44 : decode cX8_lashes 44 = .ok (.ifCond .eq 15, 3) := by decide +kernel
theorem dX8_lashes_47 : decode cX8_lashes 47 = .ok (.aload_n 0, 1) := by decide +kernel
theorem dX8_lashes_48 : decode cX8_lashes 48 = .ok (.iload_n 3, 1) := by decide +kernel
theorem dX8_lashes_49 : decode cX8_lashes 49 = .ok (.iload 4, 2) := by decide +kernel
theorem dX8_lashes_51 : decode cX8_lashes 51 = .ok (.iload 5, 2) := by decide +kernel
theorem dX8_lashes_53 : decode cX8_lashes 53 = .ok (.invokevirtual 239, 3) := by decide +kernel
theorem dX8_lashes_56 : decode cX8_lashes 56 = .ok (.goto 5, 3) := by decide +kernel
theorem dX8_lashes_59 : decode cX8_lashes 59 = .ok (.ldc 166, 2) := by decide +kernel
theorem dX8_lashes_61 : decode cX8_lashes 61 = .ok (.istore 6, 2) := by decide +kernel
theorem dX8_lashes_63 : decode cX8_lashes 63 = .ok (.iload 6, 2) := by decide +kernel
theorem dX8_lashes_65 : decode cX8_lashes 65 = .ok (.ifCond .ge 6, 3) := by decide +kernel
theorem dX8_lashes_68 : decode cX8_lashes 68 = .ok (.iload 6, 2) := by decide +kernel
theorem dX8_lashes_70 : decode cX8_lashes 70 = .ok (.ireturn, 1) := by decide +kernel
theorem dX8_lashes_71 : decode cX8_lashes 71 = .ok (.aload_n 0, 1) := by decide +kernel
theorem dX8_lashes_72 : decode cX8_lashes 72 = .ok (.invokevirtual 196, 3) := by decide +kernel
theorem dX8_lashes_75 : decode cX8_lashes 75 = .ok (.iconst 0, 1) := by decide +kernel
theorem dX8_lashes_76 : decode cX8_lashes 76 = .ok (.istore 7, 2) := by decide +kernel
theorem dX8_lashes_78 : decode cX8_lashes 78 = .ok (.iconst 1, 1) := by decide +kernel
theorem dX8_lashes_79 : decode cX8_lashes 79 = .ok (.istore 8, 2) := by decide +kernel
theorem dX8_lashes_81 : decode cX8_lashes 81 = .ok (.iload 8, 2) := by decide +kernel
theorem dX8_lashes_83 : decode cX8_lashes 83 = .ok (.bipush 30, 2) := by decide +kernel
theorem dX8_lashes_85 : decode cX8_lashes 85 = .ok (.if_icmp .gt 48, 3) := by decide +kernel
theorem dX8_lashes_88 : decode cX8_lashes 88 = .ok (.aload_n 0, 1) := by decide +kernel
theorem dX8_lashes_89 : decode cX8_lashes 89 = .ok (.iload_n 2, 1) := by decide +kernel
theorem dX8_lashes_90 : decode cX8_lashes 90 = .ok (.iload 8, 2) := by decide +kernel
theorem dX8_lashes_92 : decode cX8_lashes 92 = .ok (.invokevirtual 178, 3) := by decide +kernel
theorem dX8_lashes_95 : decode cX8_lashes 95 = .ok (.iload 7, 2) := by decide +kernel
theorem dX8_lashes_97 : decode cX8_lashes 97 = .ok (.aload_n 0, 1) := by decide +kernel
theorem dX8_lashes_98 : decode cX8_lashes 98 = .ok (.iload_n 1, 1) := by decide +kernel
theorem dX8_lashes_99 : decode cX8_lashes 99 = .ok (.bipush 40, 2) := by decide +kernel
theorem dX8_lashes_101 : decode cX8_lashes 101 = .ok (.iload_n 3, 1) := by decide +kernel
theorem dX8_lashes_102 : decode cX8_lashes 102 = .ok (.imul, 1) := by decide +kernel
theorem dX8_lashes_103 : decode cX8_lashes 103 = .ok (.iload 4, 2) := by decide +kernel
theorem dX8_lashes_105 : decode cX8_lashes 105 = .ok (.iadd, 1) := by decide +kernel
theorem dX8_lashes_106 : decode cX8_lashes 106 = .ok (.iload 5, 2) := by decide +kernel
theorem dX8_lashes_108 : decode cX8_lashes 108 = .ok (.invokevirtual 233, 3) := by decide +kernel
theorem dX8_lashes_111 : decode cX8_lashes 111 = .ok (.ifCond .eq 12, 3) := by decide +kernel
theorem dX8_lashes_114 : decode cX8_lashes 114 = .ok (.iconst 1, 1) := by decide +kernel
theorem dX8_lashes_115 : decode cX8_lashes 115 = .ok (.iload 8, 2) := by decide +kernel
theorem dX8_lashes_117 : decode cX8_lashes 117 = .ok (.iconst 1, 1) := by decide +kernel
theorem dX8_lashes_118 : decode cX8_lashes 118 = .ok (.isub, 1) := by decide +kernel
theorem dX8_lashes_119 : decode cX8_lashes 119 = .ok (.ishl, 1) := by decide +kernel
theorem dX8_lashes_120 : decode cX8_lashes 120 = .ok (.goto 4, 3) := by decide +kernel
theorem dX8_lashes_123 : decode cX8_lashes 123 = .ok (.iconst 0, 1) := by decide +kernel
theorem dX8_lashes_124 : decode cX8_lashes 124 = .ok (.ior, 1) := by decide +kernel
theorem dX8_lashes_125 : decode cX8_lashes 125 = .ok (.istore 7, 2) := by decide +kernel
theorem dX8_lashes_127 : decode cX8_lashes 127 = .ok (.iinc 8 1, 3) := by decide +kernel
theorem dX8_lashes_130 : decode cX8_lashes 130 = .ok (.goto (-49), 3) := by decide +kernel
theorem dX8_lashes_133 : decode cX8_lashes 133 = .ok (.aload_n 0, 1) := by decide +kernel
theorem dX8_lashes_134 : decode cX8_lashes 134 = .ok (.iload 7, 2) := by decide +kernel
theorem dX8_lashes_136 : decode cX8_lashes 136 = .ok (.invokevirtual 72, 3) := by decide +kernel
theorem dX8_lashes_139 : decode cX8_lashes 139 = .ok (.ireturn, 1) := by decide +kernel
theorem dX8_crack_0 : decode cX8_crack 0 = .ok (.aload_n 0, 1) := by decide +kernel
theorem dX8_crack_1 : decode cX8_crack 1 = .ok (.iload_n 1, 1) := by decide +kernel
theorem dX8_crack_2 : decode cX8_crack 2 = .ok (.invokevirtual 175, 3) := by decide +kernel
theorem dX8_crack_5 : decode cX8_crack 5 = .ok (.ifCond .eq 35, 3) := by decide +kernel
theorem dX8_crack_8 : decode cX8_crack 8 = .ok (.iload_n 2, 1) := by decide +kernel
theorem dX8_crack_9 : decode cX8_crack 9 = .ok (.i2l, 1) := by decide +kernel
theorem dX8_crack_10 : decode cX8_crack 10 = .ok (.lconst 0, 1) := by decide +kernel
theorem dX8_crack_11 : decode cX8_crack 11 = .ok (.ldc2_w 247, 3) := by decide +kernel
theorem dX8_crack_14 : decode cX8_crack 14 = .ok (.invokestatic 57, 3) := by decide +kernel
theorem dX8_crack_17 : decode cX8_crack 17 = .ok (.ifCond .eq 23, 3) := by decide +kernel
theorem dX8_crack_20 : decode cX8_crack 20 = .ok (.iload_n 3, 1) := by decide +kernel
theorem dX8_crack_21 : decode cX8_crack 21 = .ok (.i2l, 1) := by decide +kernel
theorem dX8_crack_22 : decode cX8_crack 22 = .ok (.lconst 0, 1) := by decide +kernel
theorem dX8_crack_23 : decode cX8_crack 23 = .ok (.ldc2_w 249, 3) := by decide +kernel
theorem dX8_crack_26 : decode cX8_crack 26 = .ok (.invokestatic 57, 3) := by decide +kernel
theorem dX8_crack_29 : decode cX8_crack 29 = .ok (.ifCond .eq 11, 3) := by decide +kernel
theorem dX8_crack_32 : decode cX8_crack 32 = .ok (.iload 4, 2) := by decide +kernel
theorem dX8_crack_34 : decode cX8_crack 34 = .ok (.invokestatic 203, 3) := by decide +kernel
theorem dX8_crack_37 : decode cX8_crack 37 = .ok (.ifCond .ne 7, 3) := by decide +kernel
theorem dX8_crack_40 : decode cX8_crack 40 = .ok (.ldc2_w 251, 3) := by decide +kernel
theorem dX8_crack_43 : decode cX8_crack 43 = .ok (.lreturn, 1) := by decide +kernel
theorem dX8_crack_44 : decode cX8_crack 44 = .ok (.aload_n 0, 1) := by decide +kernel
theorem dX8_crack_45 : decode cX8_crack 45 = .ok (.invokevirtual 196, 3) := by decide +kernel
theorem dX8_crack_48 : decode cX8_crack 48 = .ok (.aload_n 0, 1) := by decide +kernel
theorem dX8_crack_49 : decode cX8_crack 49 = .ok (.invokevirtual 155, 3) := by decide +kernel
theorem dX8_crack_52 : decode cX8_crack 52 = .ok (.istore 5, 2) := by decide +kernel
theorem dX8_crack_54 : decode cX8_crack 54 = .ok (.lconst 0, 1) := by decide +kernel
theorem dX8_crack_55 : decode cX8_crack 55 = .ok (.lstore 6, 2) := by decide +kernel
theorem dX8_crack_57 : decode cX8_crack 57 = .ok (.lconst 1, 1) := by decide +kernel
theorem dX8_crack_58 : decode cX8_crack 58 = .ok (.lstore 8, 2) := by decide +kernel
theorem dX8_crack_60 : decode cX8_crack 60 = .ok (.iload 5, 2) := by decide +kernel
theorem dX8_crack_62 : decode cX8_crack 62 = .ok (.invokestatic 215, 3) := by decide +kernel
theorem dX8_crack_65 : decode cX8_crack 65 = .ok (.istore 10, 2) := by decide +kernel
theorem dX8_crack_67 : decode cX8_crack 67 = .ok (.iload 10, 2) := by decide +kernel
theorem dX8_crack_69 : decode cX8_crack 69 = .ok (.ifCond .le 17, 3) := by decide +kernel
theorem dX8_crack_72 : decode cX8_crack 72 = .ok (.lload 8, 2) := by decide +kernel
theorem dX8_crack_74 : decode cX8_crack 74 = .ok (.ldc2_w 249, 3) := by decide +kernel
theorem dX8_crack_77 : decode cX8_crack 77 = .ok (.lmul, 1) := by decide +kernel
theorem dX8_crack_78 : decode cX8_crack 78 = .ok (.lstore 8, 2) := by decide +kernel
theorem dX8_crack_80 : decode cX8_crack 80 = .ok (.iinc 10 (-1), 3) := by decide +kernel
theorem dX8_crack_83 : decode cX8_crack 83 = .ok (.goto (-16), 3) := by decide +kernel
theorem dX8_crack_86 : decode cX8_crack 86 = .ok (.iconst 0, 1) := by decide +kernel
theorem dX8_crack_87 : decode cX8_crack 87 = .ok (.istore 10, 2) := by decide +kernel
theorem dX8_crack_89 : decode cX8_crack 89 = .ok (.iload 10, 2) := by decide +kernel
theorem dX8_crack_91 : decode cX8_crack 91 = .ok (.iload 5, 2) := by decide +kernel
theorem dX8_crack_93 : decode cX8_crack 93 = .ok (.if_icmp .gt 149, 3) := by decide +kernel
theorem dX8_crack_96 : decode cX8_crack 96 = .ok (.iload 10, 2) := by decide +kernel
theorem dX8_crack_98 : decode cX8_crack 98 = .ok (.iload 5, 2) := by decide +kernel
theorem dX8_crack_100 : decode cX8_crack 100 = .ok (.iconst (-1), 1) := by decide +kernel
theorem dX8_crack_101 : decode cX8_crack 101 = .ok (.ixor, 1) := by decide +kernel
theorem dX8_crack_102 : decode cX8_crack 102 = .ok (.iand, 1) := by decide +kernel
theorem dX8_crack_103 : decode cX8_crack 103 = .ok (.ifCond .ne 133, 3) := by decide +kernel
theorem dX8_crack_106 : decode cX8_crack 106 = .ok (.lconst 1, 1) := by decide +kernel
theorem dX8_crack_107 : decode cX8_crack 107 = .ok (.lstore 11, 2) := by decide +kernel
theorem dX8_crack_109 : decode cX8_crack 109 = .ok (.iconst 0, 1) := by decide +kernel
theorem dX8_crack_110 : decode cX8_crack 110 = .ok (.istore 13, 2) := by decide +kernel
theorem dX8_crack_112 : decode cX8_crack 112 = .ok (.iload 13, 2) := by decide +kernel
theorem dX8_crack_114 : decode cX8_crack 114 = .ok (.aload_n 0, 1) := by decide +kernel
theorem dX8_crack_115 : decode cX8_crack 115 = .ok (.getfield 19, 3) := by decide +kernel
theorem dX8_crack_118 : decode cX8_crack 118 = .ok (.iconst 0, 1) := by decide +kernel
theorem dX8_crack_119 : decode cX8_crack 119 = .ok (.iaload, 1) := by decide +kernel
theorem dX8_crack_120 : decode cX8_crack 120 = .ok (.if_icmp .ge 93, 3) := by decide +kernel
theorem dX8_crack_123 : decode cX8_crack 123 = .ok (.lload 11, 2) := by decide +kernel
theorem dX8_crack_125 : decode cX8_crack 125 = .ok (.iload 5, 2) := by decide +kernel
theorem dX8_crack_127 : decode cX8_crack 127 = .ok (.iload 13, 2) := by decide +kernel
theorem dX8_crack_129 : decode cX8_crack 129 = .ok (.invokestatic 145, 3) := by decide +kernel
theorem dX8_crack_132 : decode cX8_crack 132 = .ok (.ifCond .ne 7, 3) := by decide +kernel
theorem dX8_crack_135 : decode cX8_crack 135 = .ok (.lconst 1, 1) := by decide +kernel
theorem dX8_crack_136 : decode cX8_crack 136 = .ok (.goto 23, 3) := by decide +kernel
theorem dX8_crack_139 : decode cX8_crack 139 = .ok (.iload 10, 2) := by decide +kernel
theorem dX8_crack_141 : decode cX8_crack 141 = .ok (.iload 13, 2) := by decide +kernel
theorem dX8_crack_143 : decode cX8_crack 143 = .ok (.invokestatic 145, 3) := by decide +kernel
theorem dX8_crack_146 : decode cX8_crack 146 = .ok (.ifCond .eq 8, 3) := by decide +kernel
theorem dX8_crack_149 : decode cX8_crack 149 = .ok (.iload_n 3, 1) := by decide +kernel
theorem dX8_crack_150 : decode cX8_crack 150 = .ok (.i2l, 1) := by decide +kernel
theorem dX8_crack_151 : decode cX8_crack 151 = .ok (.goto 8, 3) := by decide +kernel
theorem dX8_crack_154 : decode cX8_crack 154 = .ok (.bipush 10, 2) := by decide +kernel
theorem dX8_crack_156 : decode cX8_crack 156 = .ok (.iload_n 3, 1) := by decide +kernel
theorem dX8_crack_157 : decode cX8_crack 157 = .ok (.isub, 1) := by decide +kernel
theorem dX8_crack_158 : decode cX8_crack 158 = .ok (.i2l, 1) := by decide +kernel
theorem dX8_crack_159 : decode cX8_crack 159 = .ok (.lmul, 1) := by decide +kernel
theorem dX8_crack_160 : decode cX8_crack 160 = .ok (.lstore 11, 2) := by decide +kernel
theorem dX8_crack_162 : decode cX8_crack 162 = .ok (.aload_n 0, 1) := by decide +kernel
theorem dX8_crack_163 : decode cX8_crack 163 = .ok (.getfield 19, 3) := by decide +kernel
theorem dX8_crack_166 : decode cX8_crack 166 = .ok (.bipush 21, 2) := by decide +kernel
theorem dX8_crack_168 : decode cX8_crack 168 = .ok (.iload 13, 2) := by decide +kernel
theorem dX8_crack_170 : decode cX8_crack 170 = .ok (.iadd, 1) := by decide +kernel
theorem dX8_crack_171 : decode cX8_crack 171 = .ok (.iload 10, 2) := by decide +kernel
theorem dX8_crack_173 : decode cX8_crack 173 = .ok (.iload 13, 2) := by decide +kernel
theorem dX8_crack_175 : decode cX8_crack 175 = .ok (.invokestatic 145, 3) := by decide +kernel
theorem dX8_crack_178 : decode cX8_crack 178 = .ok (.ifCond .eq 18, 3) := by decide +kernel
theorem dX8_crack_181 : decode cX8_crack 181 = .ok (.aload_n 0, 1) := by decide +kernel
theorem dX8_crack_182 : decode cX8_crack 182 = .ok (.getfield 19, 3) := by decide +kernel
theorem dX8_crack_185 : decode cX8_crack 185 = .ok (.bipush 21, 2) := by decide +kernel
theorem dX8_crack_187 : decode cX8_crack 187 = .ok (.iload 13, 2) := by decide +kernel
theorem dX8_crack_189 : decode cX8_crack 189 = .ok (.iadd, 1) := by decide +kernel
theorem dX8_crack_190 : decode cX8_crack 190 = .ok (.iaload, 1) := by decide +kernel
theorem dX8_crack_191 : decode cX8_crack 191 = .ok (.iconst 2, 1) := by decide +kernel
theorem dX8_crack_192 : decode cX8_crack 192 = .ok (.idiv, 1) := by decide +kernel
theorem dX8_crack_193 : decode cX8_crack 193 = .ok (.goto 13, 3) := by decide +kernel
theorem dX8_crack_196 : decode cX8_crack 196 = .ok (.aload_n 0, 1) := by decide +kernel
theorem dX8_crack_197 : decode cX8_crack 197 = .ok (.getfield 19, 3) := by decide +kernel
theorem dX8_crack_200 : decode cX8_crack 200 = .ok (.bipush 21, 2) := by decide +kernel
theorem dX8_crack_202 : decode cX8_crack 202 = .ok (.iload 13, 2) := by decide +kernel
theorem dX8_crack_204 : decode cX8_crack 204 = .ok (.iadd, 1) := by decide +kernel
theorem dX8_crack_205 : decode cX8_crack 205 = .ok (.iaload, 1) := by decide +kernel
theorem dX8_crack_206 : decode cX8_crack 206 = .ok (.iastore, 1) := by decide +kernel
theorem dX8_crack_207 : decode cX8_crack 207 = .ok (.iinc 13 1, 3) := by decide +kernel
theorem dX8_crack_210 : decode cX8_crack 210 = .ok (.goto (-98), 3) := by decide +kernel
theorem dX8_crack_213 : decode cX8_crack 213 = .ok (.lload 6, 2) := by decide +kernel
theorem dX8_crack_215 : decode cX8_crack 215 = .ok (.aload_n 0, 1) := by decide +kernel
theorem dX8_crack_216 : decode cX8_crack 216 = .ok (.iload_n 2, 1) := by decide +kernel
theorem dX8_crack_217 : decode cX8_crack 217 = .ok (.invokevirtual 209, 3) := by decide +kernel
theorem dX8_crack_220 : decode cX8_crack 220 = .ok (.iload_n 1, 1) := by decide +kernel
theorem dX8_crack_221 : decode cX8_crack 221 = .ok (.invokestatic 145, 3) := by decide +kernel
theorem dX8_crack_224 : decode cX8_crack 224 = .ok (.ifCond .eq 8, 3) := by decide +kernel
theorem dX8_crack_227 : decode cX8_crack 227 = .ok (.lload 11, 2) := by decide +kernel
theorem dX8_crack_229 : decode cX8_crack 229 = .ok (.goto 4, 3) := by decide +kernel
theorem dX8_crack_232 : decode cX8_crack 232 = .ok (.lconst 0, 1) := by decide +kernel
theorem dX8_crack_233 : decode cX8_crack 233 = .ok (.ladd, 1) := by decide +kernel
theorem dX8_crack_234 : decode cX8_crack 234 = .ok (.lstore 6, 2) := by decide +kernel
theorem dX8_crack_236 : decode cX8_crack 236 = .ok (.iinc 10 1, 3) := by decide +kernel
theorem dX8_crack_239 : decode cX8_crack 239 = .ok (.goto (-150), 3) := by decide +kernel
theorem dX8_crack_242 : decode cX8_crack 242 = .ok (.lload 6, 2) := by decide +kernel
theorem dX8_crack_244 : decode cX8_crack 244 = .ok (.lstore 10, 2) := by decide +kernel
theorem dX8_crack_246 : decode cX8_crack 246 = .ok (.lload 8, 2) := by decide +kernel
theorem dX8_crack_248 : decode cX8_crack 248 = .ok (.lstore 12, 2) := by decide +kernel
theorem dX8_crack_250 : decode cX8_crack 250 = .ok (.lload 12, 2) := by decide +kernel
theorem dX8_crack_252 : decode cX8_crack 252 = .ok (.lconst 0, 1) := by decide +kernel
theorem dX8_crack_253 : decode cX8_crack 253 = .ok (.lcmp, 1) := by decide +kernel
theorem dX8_crack_254 : decode cX8_crack 254 = .ok (.ifCond .eq 21, 3) := by decide +kernel
theorem dX8_crack_257 : decode cX8_crack 257 = .ok (.lload 10, 2) := by decide +kernel
theorem dX8_crack_259 : decode cX8_crack 259 = .ok (.lload 12, 2) := by decide +kernel
theorem dX8_crack_261 : decode cX8_crack 261 = .ok (.lrem, 1) := by decide +kernel
theorem dX8_crack_262 : decode cX8_crack 262 = .ok (.lstore 14, 2) := by decide +kernel
theorem dX8_crack_264 : decode cX8_crack 264 = .ok (.lload 12, 2) := by decide +kernel
theorem dX8_crack_266 : decode cX8_crack 266 = .ok (.lstore 10, 2) := by decide +kernel
theorem dX8_crack_268 : decode cX8_crack 268 = .ok (.lload 14, 2) := by decide +kernel
theorem dX8_crack_270 : decode cX8_crack 270 = .ok (.lstore 12, 2) := by decide +kernel
theorem dX8_crack_272 : decode cX8_crack 272 = .ok (.goto (-22), 3) := by decide +kernel
theorem dX8_crack_275 : decode cX8_crack 275 = .ok (.iload 4, 2) := by decide +kernel
theorem dX8_crack_277 : decode cX8_crack 277 = .ok (.ifCond .ne 11, 3) := by decide +kernel
theorem dX8_crack_280 : decode cX8_crack 280 = .ok (.lload 6, 2) := by decide +kernel
theorem dX8_crack_282 : decode cX8_crack 282 = .ok (.lload 10, 2) := by decide +kernel
theorem dX8_crack_284 : decode cX8_crack 284 = .ok (.ldiv, 1) := by decide +kernel
theorem dX8_crack_285 : decode cX8_crack 285 = .ok (.goto 8, 3) := by decide +kernel
theorem dX8_crack_288 : decode cX8_crack 288 = .ok (.lload 8, 2) := by decide +kernel
theorem dX8_crack_290 : decode cX8_crack 290 = .ok (.lload 10, 2) := by decide +kernel
theorem dX8_crack_292 : decode cX8_crack 292 = .ok (.ldiv, 1) := by decide +kernel
theorem dX8_crack_293 : decode cX8_crack 293 = .ok (.lreturn, 1) := by decide +kernel
theorem dX8_drawn_0 : decode cX8_drawn 0 = .ok (.aload_n 0, 1) := by decide +kernel
theorem dX8_drawn_1 : decode cX8_drawn 1 = .ok (.getfield 135, 3) := by decide +kernel
theorem dX8_drawn_4 : decode cX8_drawn 4 = .ok (.ifCond .ne 6, 3) := by decide +kernel
theorem dX8_drawn_7 : decode cX8_drawn 7 = .ok (.ldc 166, 2) := by decide +kernel
theorem dX8_drawn_9 : decode cX8_drawn 9 = .ok (.ireturn, 1) := by decide +kernel
theorem dX8_drawn_10 : decode cX8_drawn 10 = .ok (.iload_n 1, 1) := by decide +kernel
theorem dX8_drawn_11 : decode cX8_drawn 11 = .ok (.i2l, 1) := by decide +kernel
theorem dX8_drawn_12 : decode cX8_drawn 12 = .ok (.lconst 0, 1) := by decide +kernel
theorem dX8_drawn_13 : decode cX8_drawn 13 = .ok (.ldc2_w 194, 3) := by decide +kernel
theorem dX8_drawn_16 : decode cX8_drawn 16 = .ok (.invokestatic 57, 3) := by decide +kernel
theorem dX8_drawn_19 : decode cX8_drawn 19 = .ok (.ifCond .eq 22, 3) := by decide +kernel
theorem dX8_drawn_22 : decode cX8_drawn 22 = .ok (.iload_n 2, 1) := by decide +kernel
theorem dX8_drawn_23 : decode cX8_drawn 23 = .ok (.i2l, 1) := by decide +kernel
theorem dX8_drawn_24 : decode cX8_drawn 24 = .ok (.lconst 1, 1) := by decide +kernel
theorem dX8_drawn_25 : decode cX8_drawn 25 = .ok (.ldc2_w 253, 3) := by decide +kernel
theorem dX8_drawn_28 : decode cX8_drawn 28 = .ok (.invokestatic 57, 3) := by decide +kernel
theorem dX8_drawn_31 : decode cX8_drawn 31 = .ok (.ifCond .eq 10, 3) := by decide +kernel
theorem dX8_drawn_34 : decode cX8_drawn 34 = .ok (.iload_n 3, 1) := by decide +kernel
theorem dX8_drawn_35 : decode cX8_drawn 35 = .ok (.invokestatic 203, 3) := by decide +kernel
theorem dX8_drawn_38 : decode cX8_drawn 38 = .ok (.ifCond .ne 6, 3) := by decide +kernel
theorem dX8_drawn_41 : decode cX8_drawn 41 = .ok (.ldc 67, 2) := by decide +kernel
theorem dX8_drawn_43 : decode cX8_drawn 43 = .ok (.ireturn, 1) := by decide +kernel
theorem dX8_drawn_44 : decode cX8_drawn 44 = .ok (.aload_n 0, 1) := by decide +kernel
theorem dX8_drawn_45 : decode cX8_drawn 45 = .ok (.invokevirtual 196, 3) := by decide +kernel
theorem dX8_drawn_48 : decode cX8_drawn 48 = .ok (.iload_n 2, 1) := by decide +kernel
theorem dX8_drawn_49 : decode cX8_drawn 49 = .ok (.i2l, 1) := by decide +kernel
theorem dX8_drawn_50 : decode cX8_drawn 50 = .ok (.lstore 4, 2) := by decide +kernel
theorem dX8_drawn_52 : decode cX8_drawn 52 = .ok (.iconst 0, 1) := by decide +kernel
theorem dX8_drawn_53 : decode cX8_drawn 53 = .ok (.istore 6, 2) := by decide +kernel
theorem dX8_drawn_55 : decode cX8_drawn 55 = .ok (.iload 6, 2) := by decide +kernel
theorem dX8_drawn_57 : decode cX8_drawn 57 = .ok (.iload_n 1, 1) := by decide +kernel
theorem dX8_drawn_58 : decode cX8_drawn 58 = .ok (.if_icmp .ge 105, 3) := by decide +kernel
theorem dX8_drawn_61 : decode cX8_drawn 61 = .ok (.lload 4, 2) := by decide +kernel
theorem dX8_drawn_63 : decode cX8_drawn 63 = .ok (.ldc2_w 255, 3) := by decide +kernel
theorem dX8_drawn_66 : decode cX8_drawn 66 = .ok (.lmul, 1) := by decide +kernel
theorem dX8_drawn_67 : decode cX8_drawn 67 = .ok (.ldc2_w 257, 3) := by decide +kernel
theorem dX8_drawn_70 : decode cX8_drawn 70 = .ok (.lrem, 1) := by decide +kernel
theorem dX8_drawn_71 : decode cX8_drawn 71 = .ok (.lstore 4, 2) := by decide +kernel
theorem dX8_drawn_73 : decode cX8_drawn 73 = .ok (.lload 4, 2) := by decide +kernel
theorem dX8_drawn_75 : decode cX8_drawn 75 = .ok (.aload_n 0, 1) := by decide +kernel
theorem dX8_drawn_76 : decode cX8_drawn 76 = .ok (.getfield 19, 3) := by decide +kernel
theorem dX8_drawn_79 : decode cX8_drawn 79 = .ok (.iconst 0, 1) := by decide +kernel
theorem dX8_drawn_80 : decode cX8_drawn 80 = .ok (.iaload, 1) := by decide +kernel
theorem dX8_drawn_81 : decode cX8_drawn 81 = .ok (.i2l, 1) := by decide +kernel
theorem dX8_drawn_82 : decode cX8_drawn 82 = .ok (.lrem, 1) := by decide +kernel
theorem dX8_drawn_83 : decode cX8_drawn 83 = .ok (.l2i, 1) := by decide +kernel
theorem dX8_drawn_84 : decode cX8_drawn 84 = .ok (.istore 7, 2) := by decide +kernel
theorem dX8_drawn_86 : decode cX8_drawn 86 = .ok (.aload_n 0, 1) := by decide +kernel
theorem dX8_drawn_87 : decode cX8_drawn 87 = .ok (.iload 7, 2) := by decide +kernel
theorem dX8_drawn_89 : decode cX8_drawn 89 = .ok (.invokevirtual 142, 3) := by decide +kernel
theorem dX8_drawn_92 : decode cX8_drawn 92 = .ok (.ifCond .eq 29, 3) := by decide +kernel
theorem dX8_drawn_95 : decode cX8_drawn 95 = .ok (.lload 4, 2) := by decide +kernel
theorem dX8_drawn_97 : decode cX8_drawn 97 = .ok (.ldc2_w 65, 3) := by decide +kernel
theorem dX8_drawn_100 : decode cX8_drawn 100 = .ok (.lrem, 1) := by decide +kernel
theorem dX8_drawn_101 : decode cX8_drawn 101 = .ok (.lconst 0, 1) := by decide +kernel
theorem dX8_drawn_102 : decode cX8_drawn 102 = .ok (.lcmp, 1) := by decide +kernel
theorem dX8_drawn_103 : decode cX8_drawn 103 = .ok (.ifCond .ne 18, 3) := by decide +kernel
theorem dX8_drawn_106 : decode cX8_drawn 106 = .ok (.aload_n 0, 1) := by decide +kernel
theorem dX8_drawn_107 : decode cX8_drawn 107 = .ok (.iload 7, 2) := by decide +kernel
theorem dX8_drawn_109 : decode cX8_drawn 109 = .ok (.aload_n 0, 1) := by decide +kernel
theorem dX8_drawn_110 : decode cX8_drawn 110 = .ok (.getfield 19, 3) := by decide +kernel
theorem dX8_drawn_113 : decode cX8_drawn 113 = .ok (.iconst 1, 1) := by decide +kernel
theorem dX8_drawn_114 : decode cX8_drawn 114 = .ok (.iaload, 1) := by decide +kernel
theorem dX8_drawn_115 : decode cX8_drawn 115 = .ok (.invokevirtual 178, 3) := by decide +kernel
theorem dX8_drawn_118 : decode cX8_drawn 118 = .ok (.goto 35, 3) := by decide +kernel
theorem dX8_drawn_121 : decode cX8_drawn 121 = .ok (.aload_n 0, 1) := by decide +kernel
theorem dX8_drawn_122 : decode cX8_drawn 122 = .ok (.iload 7, 2) := by decide +kernel
theorem dX8_drawn_124 : decode cX8_drawn 124 = .ok (.invokevirtual 142, 3) := by decide +kernel
theorem dX8_drawn_127 : decode cX8_drawn 127 = .ok (.ifCond .ne 26, 3) := by decide +kernel
theorem dX8_drawn_130 : decode cX8_drawn 130 = .ok (.lload 4, 2) := by decide +kernel
theorem dX8_drawn_132 : decode cX8_drawn 132 = .ok (.ldc2_w 259, 3) := by decide +kernel
theorem dX8_drawn_135 : decode cX8_drawn 135 = .ok (.lrem, 1) := by decide +kernel
theorem dX8_drawn_136 : decode cX8_drawn 136 = .ok (.lconst 0, 1) := by decide +kernel
theorem dX8_drawn_137 : decode cX8_drawn 137 = .ok (.lcmp, 1) := by decide +kernel
theorem dX8_drawn_138 : decode cX8_drawn 138 = .ok (.ifCond .ne 15, 3) := by decide +kernel
theorem dX8_drawn_141 : decode cX8_drawn 141 = .ok (.aload_n 0, 1) := by decide +kernel
theorem dX8_drawn_142 : decode cX8_drawn 142 = .ok (.getfield 19, 3) := by decide +kernel
theorem dX8_drawn_145 : decode cX8_drawn 145 = .ok (.bipush 21, 2) := by decide +kernel
theorem dX8_drawn_147 : decode cX8_drawn 147 = .ok (.iload 7, 2) := by decide +kernel
theorem dX8_drawn_149 : decode cX8_drawn 149 = .ok (.iadd, 1) := by decide +kernel
theorem dX8_drawn_150 : decode cX8_drawn 150 = .ok (.bipush 50, 2) := by decide +kernel
theorem dX8_drawn_152 : decode cX8_drawn 152 = .ok (.iastore, 1) := by decide +kernel
theorem dX8_drawn_153 : decode cX8_drawn 153 = .ok (.aload_n 0, 1) := by decide +kernel
theorem dX8_drawn_154 : decode cX8_drawn 154 = .ok (.invokevirtual 172, 3) := by decide +kernel
theorem dX8_drawn_157 : decode cX8_drawn 157 = .ok (.iinc 6 1, 3) := by decide +kernel
theorem dX8_drawn_160 : decode cX8_drawn 160 = .ok (.goto (-105), 3) := by decide +kernel
theorem dX8_drawn_163 : decode cX8_drawn 163 = .ok (.iload_n 3, 1) := by decide +kernel
theorem dX8_drawn_164 : decode cX8_drawn 164 = .ok (.ifCond .ne 10, 3) := by decide +kernel
theorem dX8_drawn_167 : decode cX8_drawn 167 = .ok (.aload_n 0, 1) := by decide +kernel
theorem dX8_drawn_168 : decode cX8_drawn 168 = .ok (.invokevirtual 155, 3) := by decide +kernel
theorem dX8_drawn_171 : decode cX8_drawn 171 = .ok (.goto 9, 3) := by decide +kernel
theorem dX8_drawn_174 : decode cX8_drawn 174 = .ok (.aload_n 0, 1) := by decide +kernel
theorem dX8_drawn_175 : decode cX8_drawn 175 = .ok (.iconst 0, 1) := by decide +kernel
theorem dX8_drawn_176 : decode cX8_drawn 176 = .ok (.iconst 1, 1) := by decide +kernel
theorem dX8_drawn_177 : decode cX8_drawn 177 = .ok (.invokevirtual 184, 3) := by decide +kernel
theorem dX8_drawn_180 : decode cX8_drawn 180 = .ok (.istore 6, 2) := by decide +kernel
theorem dX8_drawn_182 : decode cX8_drawn 182 = .ok (.aload_n 0, 1) := by decide +kernel
theorem dX8_drawn_183 : decode cX8_drawn 183 = .ok (.invokevirtual 191, 3) := by decide +kernel
theorem dX8_drawn_186 : decode cX8_drawn 186 = .ok (.iload 6, 2) := by decide +kernel
theorem dX8_drawn_188 : decode cX8_drawn 188 = .ok (.ireturn, 1) := by decide +kernel
theorem dX8_image_0 : decode cX8_image 0 = .ok (.iload_n 1, 1) := by decide +kernel
theorem dX8_image_1 : decode cX8_image 1 = .ok (.i2l, 1) := by decide +kernel
theorem dX8_image_2 : decode cX8_image 2 = .ok (.lconst 0, 1) := by decide +kernel
theorem dX8_image_3 : decode cX8_image 3 = .ok (.lconst 1, 1) := by decide +kernel
theorem dX8_image_4 : decode cX8_image 4 = .ok (.invokestatic 57, 3) := by decide +kernel
theorem dX8_image_7 : decode cX8_image 7 = .ok (.ifCond .ne 6, 3) := by decide +kernel
theorem dX8_image_10 : decode cX8_image 10 = .ok (.ldc 67, 2) := by decide +kernel
theorem dX8_image_12 : decode cX8_image 12 = .ok (.ireturn, 1) := by decide +kernel
theorem dX8_image_13 : decode cX8_image 13 = .ok (.aload_n 0, 1) := by decide +kernel
theorem dX8_image_14 : decode cX8_image 14 = .ok (.getfield 135, 3) := by decide +kernel
theorem dX8_image_17 : decode cX8_image 17 = .ok (.ifCond .ne 6, 3) := by decide +kernel
theorem dX8_image_20 : decode cX8_image 20 = .ok (.ldc 166, 2) := by decide +kernel
theorem dX8_image_22 : decode cX8_image 22 = .ok (.ireturn, 1) := by decide +kernel
theorem dX8_image_23 : decode cX8_image 23 = .ok (.iconst 0, 1) := by decide +kernel
theorem dX8_image_24 : decode cX8_image 24 = .ok (.istore_n 2, 1) := by decide +kernel
theorem dX8_image_25 : decode cX8_image 25 = .ok (.iload_n 2, 1) := by decide +kernel
theorem dX8_image_26 : decode cX8_image 26 = .ok (.bipush 29, 2) := by decide +kernel
theorem dX8_image_28 : decode cX8_image 28 = .ok (.if_icmp .ge 26, 3) := by decide +kernel
theorem dX8_image_31 : decode cX8_image 31 = .ok (.aload_n 0, 1) := by decide +kernel
theorem dX8_image_32 : decode cX8_image 32 = .ok (.getfield 44, 3) := by decide +kernel
theorem dX8_image_35 : decode cX8_image 35 = .ok (.bipush 29, 2) := by decide +kernel
theorem dX8_image_37 : decode cX8_image 37 = .ok (.iload_n 1, 1) := by decide +kernel
theorem dX8_image_38 : decode cX8_image 38 = .ok (.imul, 1) := by decide +kernel
theorem dX8_image_39 : decode cX8_image 39 = .ok (.iload_n 2, 1) := by decide +kernel
theorem dX8_image_40 : decode cX8_image 40 = .ok (.iadd, 1) := by decide +kernel
theorem dX8_image_41 : decode cX8_image 41 = .ok (.aload_n 0, 1) := by decide +kernel
theorem dX8_image_42 : decode cX8_image 42 = .ok (.getfield 19, 3) := by decide +kernel
theorem dX8_image_45 : decode cX8_image 45 = .ok (.iload_n 2, 1) := by decide +kernel
theorem dX8_image_46 : decode cX8_image 46 = .ok (.iaload, 1) := by decide +kernel
theorem dX8_image_47 : decode cX8_image 47 = .ok (.iastore, 1) := by decide +kernel
theorem dX8_image_48 : decode cX8_image 48 = .ok (.iinc 2 1, 3) := by decide +kernel
theorem dX8_image_51 : decode cX8_image 51 = .ok (.goto (-26), 3) := by decide +kernel
theorem dX8_image_54 : decode cX8_image 54 = .ok (.aload_n 0, 1) := by decide +kernel
theorem dX8_image_55 : decode cX8_image 55 = .ok (.getfield 40, 3) := by decide +kernel
theorem dX8_image_58 : decode cX8_image 58 = .ok (.iload_n 1, 1) := by decide +kernel
theorem dX8_image_59 : decode cX8_image 59 = .ok (.iconst 1, 1) := by decide +kernel
theorem dX8_image_60 : decode cX8_image 60 = .ok (.bastore, 1) := by decide +kernel
theorem dX8_image_61 : decode cX8_image 61 = .ok (.iconst 1, 1) := by decide +kernel
theorem dX8_image_62 : decode cX8_image 62 = .ok (.ireturn, 1) := by decide +kernel
theorem dX8_restore_0 : decode cX8_restore 0 = .ok (.iload_n 1, 1) := by decide +kernel
theorem dX8_restore_1 : decode cX8_restore 1 = .ok (.i2l, 1) := by decide +kernel
theorem dX8_restore_2 : decode cX8_restore 2 = .ok (.lconst 0, 1) := by decide +kernel
theorem dX8_restore_3 : decode cX8_restore 3 = .ok (.lconst 1, 1) := by decide +kernel
theorem dX8_restore_4 : decode cX8_restore 4 = .ok (.invokestatic 57, 3) := by decide +kernel
theorem dX8_restore_7 : decode cX8_restore 7 = .ok (.ifCond .ne 6, 3) := by decide +kernel
theorem dX8_restore_10 : decode cX8_restore 10 = .ok (.ldc 67, 2) := by decide +kernel
theorem dX8_restore_12 : decode cX8_restore 12 = .ok (.ireturn, 1) := by decide +kernel
theorem dX8_restore_13 : decode cX8_restore 13 = .ok (.aload_n 0, 1) := by decide +kernel
theorem dX8_restore_14 : decode cX8_restore 14 = .ok (.getfield 40, 3) := by decide +kernel
theorem dX8_restore_17 : decode cX8_restore 17 = .ok (.iload_n 1, 1) := by decide +kernel
theorem dX8_restore_18 : decode cX8_restore 18 = .ok (.baload, 1) := by decide +kernel
theorem dX8_restore_19 : decode cX8_restore 19 = .ok (.ifCond .ne 6, 3) := by decide +kernel
theorem dX8_restore_22 : decode cX8_restore 22 = .ok (.ldc 166, 2) := by decide +kernel
theorem dX8_restore_24 : decode cX8_restore 24 = .ok (.ireturn, 1) := by decide +kernel
theorem dX8_restore_25 : decode cX8_restore 25 = .ok (.iconst 0, 1) := by decide +kernel
theorem dX8_restore_26 : decode cX8_restore 26 = .ok (.istore_n 2, 1) := by decide +kernel
theorem dX8_restore_27 : decode cX8_restore 27 = .ok (.iload_n 2, 1) := by decide +kernel
theorem dX8_restore_28 : decode cX8_restore 28 = .ok (.bipush 29, 2) := by decide +kernel
theorem dX8_restore_30 : decode cX8_restore 30 = .ok (.if_icmp .ge 26, 3) := by decide +kernel
theorem dX8_restore_33 : decode cX8_restore 33 = .ok (.aload_n 0, 1) := by decide +kernel
theorem dX8_restore_34 : decode cX8_restore 34 = .ok (.getfield 19, 3) := by decide +kernel
theorem dX8_restore_37 : decode cX8_restore 37 = .ok (.iload_n 2, 1) := by decide +kernel
theorem dX8_restore_38 : decode cX8_restore 38 = .ok (.aload_n 0, 1) := by decide +kernel
theorem dX8_restore_39 : decode cX8_restore 39 = .ok (.getfield 44, 3) := by decide +kernel
theorem dX8_restore_42 : decode cX8_restore 42 = .ok (.bipush 29, 2) := by decide +kernel
theorem dX8_restore_44 : decode cX8_restore 44 = .ok (.iload_n 1, 1) := by decide +kernel
theorem dX8_restore_45 : decode cX8_restore 45 = .ok (.imul, 1) := by decide +kernel
theorem dX8_restore_46 : decode cX8_restore 46 = .ok (.iload_n 2, 1) := by decide +kernel
theorem dX8_restore_47 : decode cX8_restore 47 = .ok (.iadd, 1) := by decide +kernel
theorem dX8_restore_48 : decode cX8_restore 48 = .ok (.iaload, 1) := by decide +kernel
theorem dX8_restore_49 : decode cX8_restore 49 = .ok (.iastore, 1) := by decide +kernel
theorem dX8_restore_50 : decode cX8_restore 50 = .ok (.iinc 2 1, 3) := by decide +kernel
theorem dX8_restore_53 : decode cX8_restore 53 = .ok (.goto (-26), 3) := by decide +kernel
theorem dX8_restore_56 : decode cX8_restore 56 = .ok (.aload_n 0, 1) := by decide +kernel
theorem dX8_restore_57 : decode cX8_restore 57 = .ok (.iconst 0, 1) := by decide +kernel
theorem dX8_restore_58 : decode cX8_restore 58 = .ok (.putfield 139, 3) := by decide +kernel
theorem dX8_restore_61 : decode cX8_restore 61 = .ok (.iconst 1, 1) := by decide +kernel
theorem dX8_restore_62 : decode cX8_restore 62 = .ok (.ireturn, 1) := by decide +kernel
theorem dX8_kind_0 : decode cX8_kind 0 = .ok (.aload_n 0, 1) := by decide +kernel
theorem dX8_kind_1 : decode cX8_kind 1 = .ok (.iload_n 1, 1) := by decide +kernel
theorem dX8_kind_2 : decode cX8_kind 2 = .ok (.invokevirtual 175, 3) := by decide +kernel
theorem dX8_kind_5 : decode cX8_kind 5 = .ok (.ifCond .eq 14, 3) := by decide +kernel
theorem dX8_kind_8 : decode cX8_kind 8 = .ok (.aload_n 0, 1) := by decide +kernel
theorem dX8_kind_9 : decode cX8_kind 9 = .ok (.getfield 19, 3) := by decide +kernel
theorem dX8_kind_12 : decode cX8_kind 12 = .ok (.iconst 5, 1) := by decide +kernel
theorem dX8_kind_13 : decode cX8_kind 13 = .ok (.iload_n 1, 1) := by decide +kernel
theorem dX8_kind_14 : decode cX8_kind 14 = .ok (.iadd, 1) := by decide +kernel
theorem dX8_kind_15 : decode cX8_kind 15 = .ok (.iaload, 1) := by decide +kernel
theorem dX8_kind_16 : decode cX8_kind 16 = .ok (.goto 5, 3) := by decide +kernel
theorem dX8_kind_19 : decode cX8_kind 19 = .ok (.ldc 67, 2) := by decide +kernel
theorem dX8_kind_21 : decode cX8_kind 21 = .ok (.ireturn, 1) := by decide +kernel
theorem dX8_isKind_0 : decode cX8_isKind 0 = .ok (.iload_n 1, 1) := by decide +kernel
theorem dX8_isKind_1 : decode cX8_isKind 1 = .ok (.ifCond .eq 28, 3) := by decide +kernel
theorem dX8_isKind_4 : decode cX8_isKind 4 = .ok (.iload_n 0, 1) := by decide +kernel
theorem dX8_isKind_5 : decode cX8_isKind 5 = .ok (.iload_n 1, 1) := by decide +kernel
theorem dX8_isKind_6 : decode cX8_isKind 6 = .ok (.if_icmp .eq 23, 3) := by decide +kernel
theorem dX8_isKind_9 : decode cX8_isKind 9 = .ok (.iload_n 1, 1) := by decide +kernel
theorem dX8_isKind_10 : decode cX8_isKind 10 = .ok (.iconst 1, 1) := by decide +kernel
theorem dX8_isKind_11 : decode cX8_isKind 11 = .ok (.if_icmp .ne 8, 3) := by decide +kernel
theorem dX8_isKind_14 : decode cX8_isKind 14 = .ok (.iload_n 0, 1) := by decide +kernel
theorem dX8_isKind_15 : decode cX8_isKind 15 = .ok (.iconst 4, 1) := by decide +kernel
theorem dX8_isKind_16 : decode cX8_isKind 16 = .ok (.if_icmp .lt 13, 3) := by decide +kernel
theorem dX8_isKind_19 : decode cX8_isKind 19 = .ok (.iload_n 1, 1) := by decide +kernel
theorem dX8_isKind_20 : decode cX8_isKind 20 = .ok (.iconst 4, 1) := by decide +kernel
theorem dX8_isKind_21 : decode cX8_isKind 21 = .ok (.if_icmp .ne 12, 3) := by decide +kernel
theorem dX8_isKind_24 : decode cX8_isKind 24 = .ok (.iload_n 0, 1) := by decide +kernel
theorem dX8_isKind_25 : decode cX8_isKind 25 = .ok (.iconst 5, 1) := by decide +kernel
theorem dX8_isKind_26 : decode cX8_isKind 26 = .ok (.if_icmp .ne 7, 3) := by decide +kernel
theorem dX8_isKind_29 : decode cX8_isKind 29 = .ok (.iconst 1, 1) := by decide +kernel
theorem dX8_isKind_30 : decode cX8_isKind 30 = .ok (.goto 4, 3) := by decide +kernel
theorem dX8_isKind_33 : decode cX8_isKind 33 = .ok (.iconst 0, 1) := by decide +kernel
theorem dX8_isKind_34 : decode cX8_isKind 34 = .ok (.ireturn, 1) := by decide +kernel
theorem dX8_as_0 : decode cX8_as 0 = .ok (.aload_n 0, 1) := by decide +kernel
theorem dX8_as_1 : decode cX8_as 1 = .ok (.iload_n 1, 1) := by decide +kernel
theorem dX8_as_2 : decode cX8_as 2 = .ok (.invokevirtual 175, 3) := by decide +kernel
theorem dX8_as_5 : decode cX8_as 5 = .ok (.ifCond .eq 15, 3) := by decide +kernel
theorem dX8_as_8 : decode cX8_as 8 = .ok (.iload_n 2, 1) := by decide +kernel
theorem dX8_as_9 : decode cX8_as 9 = .ok (.i2l, 1) := by decide +kernel
theorem dX8_as_10 : decode cX8_as 10 = .ok (.lconst 0, 1) := by decide +kernel
theorem dX8_as_11 : decode cX8_as 11 = .ok (.ldc2_w 259, 3) := by decide +kernel
theorem dX8_as_14 : decode cX8_as 14 = .ok (.invokestatic 57, 3) := by decide +kernel
theorem dX8_as_17 : decode cX8_as 17 = .ok (.ifCond .ne 6, 3) := by decide +kernel
theorem dX8_as_20 : decode cX8_as 20 = .ok (.ldc 67, 2) := by decide +kernel
theorem dX8_as_22 : decode cX8_as 22 = .ok (.ireturn, 1) := by decide +kernel
theorem dX8_as_23 : decode cX8_as 23 = .ok (.aload_n 0, 1) := by decide +kernel
theorem dX8_as_24 : decode cX8_as 24 = .ok (.getfield 19, 3) := by decide +kernel
theorem dX8_as_27 : decode cX8_as 27 = .ok (.iconst 5, 1) := by decide +kernel
theorem dX8_as_28 : decode cX8_as 28 = .ok (.iload_n 1, 1) := by decide +kernel
theorem dX8_as_29 : decode cX8_as 29 = .ok (.iadd, 1) := by decide +kernel
theorem dX8_as_30 : decode cX8_as 30 = .ok (.iaload, 1) := by decide +kernel
theorem dX8_as_31 : decode cX8_as 31 = .ok (.iload_n 2, 1) := by decide +kernel
theorem dX8_as_32 : decode cX8_as 32 = .ok (.invokestatic 261, 3) := by decide +kernel
theorem dX8_as_35 : decode cX8_as 35 = .ok (.ifCond .eq 11, 3) := by decide +kernel
theorem dX8_as_38 : decode cX8_as 38 = .ok (.aload_n 0, 1) := by decide +kernel
theorem dX8_as_39 : decode cX8_as 39 = .ok (.iload_n 1, 1) := by decide +kernel
theorem dX8_as_40 : decode cX8_as 40 = .ok (.invokevirtual 72, 3) := by decide +kernel
theorem dX8_as_43 : decode cX8_as 43 = .ok (.goto 8, 3) := by decide +kernel
theorem dX8_as_46 : decode cX8_as 46 = .ok (.aload_n 0, 1) := by decide +kernel
theorem dX8_as_47 : decode cX8_as 47 = .ok (.iconst 3, 1) := by decide +kernel
theorem dX8_as_48 : decode cX8_as 48 = .ok (.invokevirtual 68, 3) := by decide +kernel
theorem dX8_as_51 : decode cX8_as 51 = .ok (.ireturn, 1) := by decide +kernel
theorem dX8_begin_0 : decode cX8_begin 0 = .ok (.aload_n 0, 1) := by decide +kernel
theorem dX8_begin_1 : decode cX8_begin 1 = .ok (.getfield 264, 3) := by decide +kernel
theorem dX8_begin_4 : decode cX8_begin 4 = .ok (.bipush 16, 2) := by decide +kernel
theorem dX8_begin_6 : decode cX8_begin 6 = .ok (.if_icmp .ge 23, 3) := by decide +kernel
theorem dX8_begin_9 : decode cX8_begin 9 = .ok (.aload_n 0, 1) := by decide +kernel
theorem dX8_begin_10 : decode cX8_begin 10 = .ok (.getfield 47, 3) := by decide +kernel
theorem dX8_begin_13 : decode cX8_begin 13 = .ok (.aload_n 0, 1) := by decide +kernel
theorem dX8_begin_14 : decode cX8_begin 14 = .ok (.getfield 264, 3) := by decide +kernel
theorem dX8_begin_17 : decode cX8_begin 17 = .ok (.iload_n 1, 1) := by decide +kernel
theorem dX8_begin_18 : decode cX8_begin 18 = .ok (.iastore, 1) := by decide +kernel
theorem dX8_begin_19 : decode cX8_begin 19 = .ok (.aload_n 0, 1) := by decide +kernel
theorem dX8_begin_20 : decode cX8_begin 20 = .ok (.dup, 1) := by decide +kernel
theorem dX8_begin_21 : decode cX8_begin 21 = .ok (.getfield 264, 3) := by decide +kernel
theorem dX8_begin_24 : decode cX8_begin 24 = .ok (.iconst 1, 1) := by decide +kernel
theorem dX8_begin_25 : decode cX8_begin 25 = .ok (.iadd, 1) := by decide +kernel
theorem dX8_begin_26 : decode cX8_begin 26 = .ok (.putfield 264, 3) := by decide +kernel
theorem dX8_begin_29 : decode cX8_begin 29 = .ok (.return_, 1) := by decide +kernel
theorem dX8_lent_0 : decode cX8_lent 0 = .ok (.aload_n 0, 1) := by decide +kernel
theorem dX8_lent_1 : decode cX8_lent 1 = .ok (.iload_n 2, 1) := by decide +kernel
theorem dX8_lent_2 : decode cX8_lent 2 = .ok (.invokevirtual 267, 3) := by decide +kernel
theorem dX8_lent_5 : decode cX8_lent 5 = .ok (.iload_n 2, 1) := by decide +kernel
theorem dX8_lent_6 : decode cX8_lent 6 = .ok (.bipush 10, 2) := by decide +kernel
theorem dX8_lent_8 : decode cX8_lent 8 = .ok (.if_icmp .ne 15, 3) := by decide +kernel
theorem dX8_lent_11 : decode cX8_lent 11 = .ok (.aload_n 0, 1) := by decide +kernel
theorem dX8_lent_12 : decode cX8_lent 12 = .ok (.getfield 19, 3) := by decide +kernel
theorem dX8_lent_15 : decode cX8_lent 15 = .ok (.bipush 13, 2) := by decide +kernel
theorem dX8_lent_17 : decode cX8_lent 17 = .ok (.iload_n 1, 1) := by decide +kernel
theorem dX8_lent_18 : decode cX8_lent 18 = .ok (.iadd, 1) := by decide +kernel
theorem dX8_lent_19 : decode cX8_lent 19 = .ok (.iaload, 1) := by decide +kernel
theorem dX8_lent_20 : decode cX8_lent 20 = .ok (.goto 4, 3) := by decide +kernel
theorem dX8_lent_23 : decode cX8_lent 23 = .ok (.iload_n 1, 1) := by decide +kernel
theorem dX8_lent_24 : decode cX8_lent 24 = .ok (.ireturn, 1) := by decide +kernel
theorem dX8_woodMark_0 : decode cX8_woodMark 0 = .ok (.aload_n 0, 1) := by decide +kernel
theorem dX8_woodMark_1 : decode cX8_woodMark 1 = .ok (.bipush 21, 2) := by decide +kernel
theorem dX8_woodMark_3 : decode cX8_woodMark 3 = .ok (.invokevirtual 267, 3) := by decide +kernel
theorem dX8_woodMark_6 : decode cX8_woodMark 6 = .ok (.aload_n 0, 1) := by decide +kernel
theorem dX8_woodMark_7 : decode cX8_woodMark 7 = .ok (.iload_n 1, 1) := by decide +kernel
theorem dX8_woodMark_8 : decode cX8_woodMark 8 = .ok (.bipush 20, 2) := by decide +kernel
theorem dX8_woodMark_10 : decode cX8_woodMark 10 = .ok (.invokevirtual 270, 3) := by decide +kernel
theorem dX8_woodMark_13 : decode cX8_woodMark 13 = .ok (.aload_n 0, 1) := by decide +kernel
theorem dX8_woodMark_14 : decode cX8_woodMark 14 = .ok (.getfield 19, 3) := by decide +kernel
theorem dX8_woodMark_17 : decode cX8_woodMark 17 = .ok (.bipush 21, 2) := by decide +kernel
theorem dX8_woodMark_19 : decode cX8_woodMark 19 = .ok (.iload_n 1, 1) := by decide +kernel
theorem dX8_woodMark_20 : decode cX8_woodMark 20 = .ok (.iadd, 1) := by decide +kernel
theorem dX8_woodMark_21 : decode cX8_woodMark 21 = .ok (.iaload, 1) := by decide +kernel
theorem dX8_woodMark_22 : decode cX8_woodMark 22 = .ok (.iadd, 1) := by decide +kernel
theorem dX8_woodMark_23 : decode cX8_woodMark 23 = .ok (.ireturn, 1) := by decide +kernel
theorem dX8_parishSize_0 : decode cX8_parishSize 0 = .ok (.aload_n 0, 1) := by decide +kernel
theorem dX8_parishSize_1 : decode cX8_parishSize 1 = .ok (.bipush 13, 2) := by decide +kernel
theorem dX8_parishSize_3 : decode cX8_parishSize 3 = .ok (.invokevirtual 267, 3) := by decide +kernel
theorem dX8_parishSize_6 : decode cX8_parishSize 6 = .ok (.aload_n 0, 1) := by decide +kernel
theorem dX8_parishSize_7 : decode cX8_parishSize 7 = .ok (.iload_n 1, 1) := by decide +kernel
theorem dX8_parishSize_8 : decode cX8_parishSize 8 = .ok (.bipush 10, 2) := by decide +kernel
theorem dX8_parishSize_10 : decode cX8_parishSize 10 = .ok (.invokevirtual 270, 3) := by decide +kernel
theorem dX8_parishSize_13 : decode cX8_parishSize 13 = .ok (.bipush 100, 2) := by decide +kernel
theorem dX8_parishSize_15 : decode cX8_parishSize 15 = .ok (.isub, 1) := by decide +kernel
theorem dX8_parishSize_16 : decode cX8_parishSize 16 = .ok (.ireturn, 1) := by decide +kernel
theorem dX8_sizeOfParish_0 : decode cX8_sizeOfParish 0 = .ok (.aload_n 0, 1) := by decide +kernel
theorem dX8_sizeOfParish_1 : decode cX8_sizeOfParish 1 = .ok (.getfield 19, 3) := by decide +kernel
theorem dX8_sizeOfParish_4 : decode cX8_sizeOfParish 4 = .ok (.iconst 5, 1) := by decide +kernel
theorem dX8_sizeOfParish_5 : decode cX8_sizeOfParish 5 = .ok (.iload_n 1, 1) := by decide +kernel
theorem dX8_sizeOfParish_6 : decode cX8_sizeOfParish 6 = .ok (.iadd, 1) := by decide +kernel
theorem dX8_sizeOfParish_7 : decode cX8_sizeOfParish 7 = .ok (.iaload, 1) := by decide +kernel
theorem dX8_sizeOfParish_8 : decode cX8_sizeOfParish 8 = .ok (.iconst 5, 1) := by decide +kernel
theorem dX8_sizeOfParish_9 : decode cX8_sizeOfParish 9 = .ok (.if_icmp .ne 17, 3) := by decide +kernel
theorem dX8_sizeOfParish_12 : decode cX8_sizeOfParish 12 = .ok (.aload_n 0, 1) := by decide +kernel
theorem dX8_sizeOfParish_13 : decode cX8_sizeOfParish 13 = .ok (.bipush 14, 2) := by decide +kernel
theorem dX8_sizeOfParish_15 : decode cX8_sizeOfParish 15 = .ok (.invokevirtual 267, 3) := by decide +kernel
theorem dX8_sizeOfParish_18 : decode cX8_sizeOfParish 18 = .ok (.iconst 2, 1) := by decide +kernel
theorem dX8_sizeOfParish_19 : decode cX8_sizeOfParish 19 = .ok (.aload_n 0, 1) := by decide +kernel
theorem dX8_sizeOfParish_20 : decode cX8_sizeOfParish 20 = .ok (.iload_n 1, 1) := by decide +kernel
theorem dX8_sizeOfParish_21 : decode cX8_sizeOfParish 21 = .ok (.invokevirtual 273, 3) := by decide +kernel
theorem dX8_sizeOfParish_24 : decode cX8_sizeOfParish 24 = .ok (.imul, 1) := by decide +kernel
theorem dX8_sizeOfParish_25 : decode cX8_sizeOfParish 25 = .ok (.ireturn, 1) := by decide +kernel
theorem dX8_sizeOfParish_26 : decode cX8_sizeOfParish 26 = .ok (.aload_n 0, 1) := by decide +kernel
theorem dX8_sizeOfParish_27 : decode cX8_sizeOfParish 27 = .ok (.iload_n 1, 1) := by decide +kernel
theorem dX8_sizeOfParish_28 : decode cX8_sizeOfParish 28 = .ok (.invokevirtual 273, 3) := by decide +kernel
theorem dX8_sizeOfParish_31 : decode cX8_sizeOfParish 31 = .ok (.ireturn, 1) := by decide +kernel
theorem dX8_markOf_0 : decode cX8_markOf 0 = .ok (.aload_n 0, 1) := by decide +kernel
theorem dX8_markOf_1 : decode cX8_markOf 1 = .ok (.getfield 19, 3) := by decide +kernel
theorem dX8_markOf_4 : decode cX8_markOf 4 = .ok (.iconst 5, 1) := by decide +kernel
theorem dX8_markOf_5 : decode cX8_markOf 5 = .ok (.iload_n 1, 1) := by decide +kernel
theorem dX8_markOf_6 : decode cX8_markOf 6 = .ok (.iadd, 1) := by decide +kernel
theorem dX8_markOf_7 : decode cX8_markOf 7 = .ok (.iaload, 1) := by decide +kernel
theorem dX8_markOf_8 : decode cX8_markOf 8 = .ok (.istore_n 2, 1) := by decide +kernel
theorem dX8_markOf_9 : decode cX8_markOf 9 = .ok (.iload_n 2, 1) := by decide +kernel
theorem dX8_markOf_10 : decode cX8_markOf 10 = .ok (.iconst 2, 1) := by decide +kernel
theorem dX8_markOf_11 : decode cX8_markOf 11 = .ok (.if_icmp .ne 17, 3) := by decide +kernel
theorem dX8_markOf_14 : decode cX8_markOf 14 = .ok (.aload_n 0, 1) := by decide +kernel
theorem dX8_markOf_15 : decode cX8_markOf 15 = .ok (.bipush 24, 2) := by decide +kernel
theorem dX8_markOf_17 : decode cX8_markOf 17 = .ok (.invokevirtual 267, 3) := by decide +kernel
theorem dX8_markOf_20 : decode cX8_markOf 20 = .ok (.iconst 2, 1) := by decide +kernel
theorem dX8_markOf_21 : decode cX8_markOf 21 = .ok (.aload_n 0, 1) := by decide +kernel
theorem dX8_markOf_22 : decode cX8_markOf 22 = .ok (.iload_n 1, 1) := by decide +kernel
theorem dX8_markOf_23 : decode cX8_markOf 23 = .ok (.invokevirtual 276, 3) := by decide +kernel
theorem dX8_markOf_26 : decode cX8_markOf 26 = .ok (.imul, 1) := by decide +kernel
theorem dX8_markOf_27 : decode cX8_markOf 27 = .ok (.ireturn, 1) := by decide +kernel
theorem dX8_markOf_28 : decode cX8_markOf 28 = .ok (.iload_n 2, 1) := by decide +kernel
theorem dX8_markOf_29 : decode cX8_markOf 29 = .ok (.iconst 3, 1) := by decide +kernel
theorem dX8_markOf_30 : decode cX8_markOf 30 = .ok (.if_icmp .ne 19, 3) := by decide +kernel
theorem dX8_markOf_33 : decode cX8_markOf 33 = .ok (.aload_n 0, 1) := by decide +kernel
theorem dX8_markOf_34 : decode cX8_markOf 34 = .ok (.bipush 22, 2) := by decide +kernel
theorem dX8_markOf_36 : decode cX8_markOf 36 = .ok (.invokevirtual 267, 3) := by decide +kernel
theorem dX8_markOf_39 : decode cX8_markOf 39 = .ok (.aload_n 0, 1) := by decide +kernel
theorem dX8_markOf_40 : decode cX8_markOf 40 = .ok (.iload_n 1, 1) := by decide +kernel
theorem dX8_markOf_41 : decode cX8_markOf 41 = .ok (.invokevirtual 276, 3) := by decide +kernel
theorem dX8_markOf_44 : decode cX8_markOf 44 = .ok (.sipush 1000, 3) := by decide +kernel
theorem dX8_markOf_47 : decode cX8_markOf 47 = .ok (.isub, 1) := by decide +kernel
theorem dX8_markOf_48 : decode cX8_markOf 48 = .ok (.ireturn, 1) := by decide +kernel
theorem dX8_markOf_49 : decode cX8_markOf 49 = .ok (.iload_n 2, 1) := by decide +kernel
theorem dX8_markOf_50 : decode cX8_markOf 50 = .ok (.iconst 1, 1) := by decide +kernel
theorem dX8_markOf_51 : decode cX8_markOf 51 = .ok (.if_icmp .ne 9, 3) := by decide +kernel
theorem dX8_markOf_54 : decode cX8_markOf 54 = .ok (.aload_n 0, 1) := by decide +kernel
theorem dX8_markOf_55 : decode cX8_markOf 55 = .ok (.iload_n 1, 1) := by decide +kernel
theorem dX8_markOf_56 : decode cX8_markOf 56 = .ok (.invokevirtual 276, 3) := by decide +kernel
theorem dX8_markOf_59 : decode cX8_markOf 59 = .ok (.ireturn, 1) := by decide +kernel
theorem dX8_markOf_60 : decode cX8_markOf 60 = .ok (.aload_n 0, 1) := by decide +kernel
theorem dX8_markOf_61 : decode cX8_markOf 61 = .ok (.bipush 23, 2) := by decide +kernel
theorem dX8_markOf_63 : decode cX8_markOf 63 = .ok (.invokevirtual 267, 3) := by decide +kernel
theorem dX8_markOf_66 : decode cX8_markOf 66 = .ok (.aload_n 0, 1) := by decide +kernel
theorem dX8_markOf_67 : decode cX8_markOf 67 = .ok (.iload_n 1, 1) := by decide +kernel
theorem dX8_markOf_68 : decode cX8_markOf 68 = .ok (.bipush 20, 2) := by decide +kernel
theorem dX8_markOf_70 : decode cX8_markOf 70 = .ok (.invokevirtual 270, 3) := by decide +kernel
theorem dX8_markOf_73 : decode cX8_markOf 73 = .ok (.istore_n 3, 1) := by decide +kernel
theorem dX8_markOf_74 : decode cX8_markOf 74 = .ok (.iload_n 3, 1) := by decide +kernel
theorem dX8_markOf_75 : decode cX8_markOf 75 = .ok (.aload_n 0, 1) := by decide +kernel
theorem dX8_markOf_76 : decode cX8_markOf 76 = .ok (.iload_n 1, 1) := by decide +kernel
theorem dX8_markOf_77 : decode cX8_markOf 77 = .ok (.invokevirtual 279, 3) := by decide +kernel
theorem dX8_markOf_80 : decode cX8_markOf 80 = .ok (.isub, 1) := by decide +kernel
theorem dX8_markOf_81 : decode cX8_markOf 81 = .ok (.ireturn, 1) := by decide +kernel
theorem dX8_woodSize_0 : decode cX8_woodSize 0 = .ok (.aload_n 0, 1) := by decide +kernel
theorem dX8_woodSize_1 : decode cX8_woodSize 1 = .ok (.bipush 11, 2) := by decide +kernel
theorem dX8_woodSize_3 : decode cX8_woodSize 3 = .ok (.invokevirtual 267, 3) := by decide +kernel
theorem dX8_woodSize_6 : decode cX8_woodSize 6 = .ok (.aload_n 0, 1) := by decide +kernel
theorem dX8_woodSize_7 : decode cX8_woodSize 7 = .ok (.iload_n 1, 1) := by decide +kernel
theorem dX8_woodSize_8 : decode cX8_woodSize 8 = .ok (.bipush 10, 2) := by decide +kernel
theorem dX8_woodSize_10 : decode cX8_woodSize 10 = .ok (.invokevirtual 270, 3) := by decide +kernel
theorem dX8_woodSize_13 : decode cX8_woodSize 13 = .ok (.istore_n 2, 1) := by decide +kernel
theorem dX8_woodSize_14 : decode cX8_woodSize 14 = .ok (.iload_n 2, 1) := by decide +kernel
theorem dX8_woodSize_15 : decode cX8_woodSize 15 = .ok (.aload_n 0, 1) := by decide +kernel
theorem dX8_woodSize_16 : decode cX8_woodSize 16 = .ok (.iload_n 1, 1) := by decide +kernel
theorem dX8_woodSize_17 : decode cX8_woodSize 17 = .ok (.invokevirtual 282, 3) := by decide +kernel
theorem dX8_woodSize_20 : decode cX8_woodSize 20 = .ok (.iadd, 1) := by decide +kernel
theorem dX8_woodSize_21 : decode cX8_woodSize 21 = .ok (.ireturn, 1) := by decide +kernel
theorem dX8_sizeOf_0 : decode cX8_sizeOf 0 = .ok (.aload_n 0, 1) := by decide +kernel
theorem dX8_sizeOf_1 : decode cX8_sizeOf 1 = .ok (.getfield 19, 3) := by decide +kernel
theorem dX8_sizeOf_4 : decode cX8_sizeOf 4 = .ok (.iconst 5, 1) := by decide +kernel
theorem dX8_sizeOf_5 : decode cX8_sizeOf 5 = .ok (.iload_n 1, 1) := by decide +kernel
theorem dX8_sizeOf_6 : decode cX8_sizeOf 6 = .ok (.iadd, 1) := by decide +kernel
theorem dX8_sizeOf_7 : decode cX8_sizeOf 7 = .ok (.iaload, 1) := by decide +kernel
theorem dX8_sizeOf_8 : decode cX8_sizeOf 8 = .ok (.istore_n 2, 1) := by decide +kernel
theorem dX8_sizeOf_9 : decode cX8_sizeOf 9 = .ok (.iload_n 2, 1) := by decide +kernel
theorem dX8_sizeOf_10 : decode cX8_sizeOf 10 = .ok (.iconst 2, 1) := by decide +kernel
theorem dX8_sizeOf_11 : decode cX8_sizeOf 11 = .ok (.if_icmp .ne 16, 3) := by decide +kernel
theorem dX8_sizeOf_14 : decode cX8_sizeOf 14 = .ok (.aload_n 0, 1) := by decide +kernel
theorem dX8_sizeOf_15 : decode cX8_sizeOf 15 = .ok (.bipush 12, 2) := by decide +kernel
theorem dX8_sizeOf_17 : decode cX8_sizeOf 17 = .ok (.invokevirtual 267, 3) := by decide +kernel
theorem dX8_sizeOf_20 : decode cX8_sizeOf 20 = .ok (.aload_n 0, 1) := by decide +kernel
theorem dX8_sizeOf_21 : decode cX8_sizeOf 21 = .ok (.iload_n 1, 1) := by decide +kernel
theorem dX8_sizeOf_22 : decode cX8_sizeOf 22 = .ok (.invokevirtual 285, 3) := by decide +kernel
theorem dX8_sizeOf_25 : decode cX8_sizeOf 25 = .ok (.ineg, 1) := by decide +kernel
theorem dX8_sizeOf_26 : decode cX8_sizeOf 26 = .ok (.ireturn, 1) := by decide +kernel
theorem dX8_sizeOf_27 : decode cX8_sizeOf 27 = .ok (.iload_n 2, 1) := by decide +kernel
theorem dX8_sizeOf_28 : decode cX8_sizeOf 28 = .ok (.iconst 4, 1) := by decide +kernel
theorem dX8_sizeOf_29 : decode cX8_sizeOf 29 = .ok (.if_icmp .lt 11, 3) := by decide +kernel
theorem dX8_sizeOf_32 : decode cX8_sizeOf 32 = .ok (.aload_n 0, 1) := by decide +kernel
theorem dX8_sizeOf_33 : decode cX8_sizeOf 33 = .ok (.iload_n 1, 1) := by decide +kernel
theorem dX8_sizeOf_34 : decode cX8_sizeOf 34 = .ok (.invokevirtual 279, 3) := by decide +kernel
theorem dX8_sizeOf_37 : decode cX8_sizeOf 37 = .ok (.goto 8, 3) := by decide +kernel
theorem dX8_sizeOf_40 : decode cX8_sizeOf 40 = .ok (.aload_n 0, 1) := by decide +kernel
theorem dX8_sizeOf_41 : decode cX8_sizeOf 41 = .ok (.iload_n 1, 1) := by decide +kernel
theorem dX8_sizeOf_42 : decode cX8_sizeOf 42 = .ok (.invokevirtual 285, 3) := by decide +kernel
theorem dX8_sizeOf_45 : decode cX8_sizeOf 45 = .ok (.ireturn, 1) := by decide +kernel
theorem dX8_ask_0 : decode cX8_ask 0 = .ok (.aload_n 0, 1) := by decide +kernel
theorem dX8_ask_1 : decode cX8_ask 1 = .ok (.iload_n 1, 1) := by decide +kernel
theorem dX8_ask_2 : decode cX8_ask 2 = .ok (.invokevirtual 175, 3) := by decide +kernel
theorem dX8_ask_5 : decode cX8_ask 5 = .ok (.ifCond .eq 13, 3) := by decide +kernel
theorem dX8_ask_8 : decode cX8_ask 8 = .ok (.iload_n 2, 1) := by decide +kernel
theorem dX8_ask_9 : decode cX8_ask 9 = .ok (.i2l, 1) := by decide +kernel
theorem dX8_ask_10 : decode cX8_ask 10 = .ok (.lconst 0, 1) := by decide +kernel
theorem dX8_ask_11 : decode cX8_ask 11 = .ok (.lconst 1, 1) := by decide +kernel
theorem dX8_ask_12 : decode cX8_ask 12 = .ok (.invokestatic 57, 3) := by decide +kernel
theorem dX8_ask_15 : decode cX8_ask 15 = .ok (.ifCond .ne 6, 3) := by decide +kernel
theorem dX8_ask_18 : decode cX8_ask 18 = .ok (.ldc 67, 2) := by decide +kernel
theorem dX8_ask_20 : decode cX8_ask 20 = .ok (.ireturn, 1) := by decide +kernel
theorem dX8_ask_21 : decode cX8_ask 21 = .ok (.aload_n 0, 1) := by decide +kernel
theorem dX8_ask_22 : decode cX8_ask 22 = .ok (.iconst 0, 1) := by decide +kernel
theorem dX8_ask_23 : decode cX8_ask 23 = .ok (.putfield 264, 3) := by decide +kernel
theorem dX8_ask_26 : decode cX8_ask 26 = .ok (.iload_n 2, 1) := by decide +kernel
theorem dX8_ask_27 : decode cX8_ask 27 = .ok (.ifCond .ne 11, 3) := by decide +kernel
theorem dX8_ask_30 : decode cX8_ask 30 = .ok (.aload_n 0, 1) := by decide +kernel
theorem dX8_ask_31 : decode cX8_ask 31 = .ok (.iload_n 1, 1) := by decide +kernel
theorem dX8_ask_32 : decode cX8_ask 32 = .ok (.invokevirtual 288, 3) := by decide +kernel
theorem dX8_ask_35 : decode cX8_ask 35 = .ok (.goto 8, 3) := by decide +kernel
theorem dX8_ask_38 : decode cX8_ask 38 = .ok (.aload_n 0, 1) := by decide +kernel
theorem dX8_ask_39 : decode cX8_ask 39 = .ok (.iload_n 1, 1) := by decide +kernel
theorem dX8_ask_40 : decode cX8_ask 40 = .ok (.invokevirtual 282, 3) := by decide +kernel
theorem dX8_ask_43 : decode cX8_ask 43 = .ok (.ireturn, 1) := by decide +kernel
theorem dX8_trace_0 : decode cX8_trace 0 = .ok (.iload_n 1, 1) := by decide +kernel
theorem dX8_trace_1 : decode cX8_trace 1 = .ok (.i2l, 1) := by decide +kernel
theorem dX8_trace_2 : decode cX8_trace 2 = .ok (.lconst 0, 1) := by decide +kernel
theorem dX8_trace_3 : decode cX8_trace 3 = .ok (.aload_n 0, 1) := by decide +kernel
theorem dX8_trace_4 : decode cX8_trace 4 = .ok (.getfield 264, 3) := by decide +kernel
theorem dX8_trace_7 : decode cX8_trace 7 = .ok (.iconst 1, 1) := by decide +kernel
theorem dX8_trace_8 : decode cX8_trace 8 = .ok (.isub, 1) := by decide +kernel
theorem dX8_trace_9 : decode cX8_trace 9 = .ok (.i2l, 1) := by decide +kernel
theorem dX8_trace_10 : decode cX8_trace 10 = .ok (.invokestatic 57, 3) := by decide +kernel
theorem dX8_trace_13 : decode cX8_trace 13 = .ok (.ifCond .eq 12, 3) := by decide +kernel
theorem dX8_trace_16 : decode cX8_trace 16 = .ok (.aload_n 0, 1) := by decide +kernel
theorem dX8_trace_17 : decode cX8_trace 17 = .ok (.getfield 47, 3) := by decide +kernel
theorem dX8_trace_20 : decode cX8_trace 20 = .ok (.iload_n 1, 1) := by decide +kernel
theorem dX8_trace_21 : decode cX8_trace 21 = .ok (.iaload, 1) := by decide +kernel
theorem dX8_trace_22 : decode cX8_trace 22 = .ok (.goto 5, 3) := by decide +kernel
theorem dX8_trace_25 : decode cX8_trace 25 = .ok (.ldc 202, 2) := by decide +kernel
theorem dX8_trace_27 : decode cX8_trace 27 = .ok (.ireturn, 1) := by decide +kernel
theorem dX8_count_0 : decode cX8_count 0 = .ok (.iconst 0, 1) := by decide +kernel
theorem dX8_count_1 : decode cX8_count 1 = .ok (.istore_n 2, 1) := by decide +kernel
theorem dX8_count_2 : decode cX8_count 2 = .ok (.iconst 0, 1) := by decide +kernel
theorem dX8_count_3 : decode cX8_count 3 = .ok (.istore_n 3, 1) := by decide +kernel
theorem dX8_count_4 : decode cX8_count 4 = .ok (.iload_n 3, 1) := by decide +kernel
theorem dX8_count_5 : decode cX8_count 5 = .ok (.bipush 8, 2) := by decide +kernel
theorem dX8_count_7 : decode cX8_count 7 = .ok (.if_icmp .ge 26, 3) := by decide +kernel
theorem dX8_count_10 : decode cX8_count 10 = .ok (.iload_n 2, 1) := by decide +kernel
theorem dX8_count_11 : decode cX8_count 11 = .ok (.aload_n 0, 1) := by decide +kernel
theorem dX8_count_12 : decode cX8_count 12 = .ok (.getfield 13, 3) := by decide +kernel
theorem dX8_count_15 : decode cX8_count 15 = .ok (.iload_n 3, 1) := by decide +kernel
theorem dX8_count_16 : decode cX8_count 16 = .ok (.iaload, 1) := by decide +kernel
theorem dX8_count_17 : decode cX8_count 17 = .ok (.ifCond .lt 7, 3) := by decide +kernel
theorem dX8_count_20 : decode cX8_count 20 = .ok (.iconst 1, 1) := by decide +kernel
theorem dX8_count_21 : decode cX8_count 21 = .ok (.goto 4, 3) := by decide +kernel
theorem dX8_count_24 : decode cX8_count 24 = .ok (.iconst 0, 1) := by decide +kernel
theorem dX8_count_25 : decode cX8_count 25 = .ok (.iadd, 1) := by decide +kernel
theorem dX8_count_26 : decode cX8_count 26 = .ok (.istore_n 2, 1) := by decide +kernel
theorem dX8_count_27 : decode cX8_count 27 = .ok (.iinc 3 1, 3) := by decide +kernel
theorem dX8_count_30 : decode cX8_count 30 = .ok (.goto (-26), 3) := by decide +kernel
theorem dX8_count_33 : decode cX8_count 33 = .ok (.iload_n 1, 1) := by decide +kernel
theorem dX8_count_34 : decode cX8_count 34 = .ok (.tableswitch 94 0 7 #[46, 48, 55, 62, 70, 77, 84, 89], 46) := by decide +kernel
theorem dX8_count_80 : decode cX8_count 80 = .ok (.iload_n 2, 1) := by decide +kernel
theorem dX8_count_81 : decode cX8_count 81 = .ok (.ireturn, 1) := by decide +kernel
theorem dX8_count_82 : decode cX8_count 82 = .ok (.aload_n 0, 1) := by decide +kernel
theorem dX8_count_83 : decode cX8_count 83 = .ok (.getfield 19, 3) := by decide +kernel
theorem dX8_count_86 : decode cX8_count 86 = .ok (.iconst 0, 1) := by decide +kernel
theorem dX8_count_87 : decode cX8_count 87 = .ok (.iaload, 1) := by decide +kernel
theorem dX8_count_88 : decode cX8_count 88 = .ok (.ireturn, 1) := by decide +kernel
theorem dX8_count_89 : decode cX8_count 89 = .ok (.aload_n 0, 1) := by decide +kernel
theorem dX8_count_90 : decode cX8_count 90 = .ok (.getfield 19, 3) := by decide +kernel
theorem dX8_count_93 : decode cX8_count 93 = .ok (.iconst 3, 1) := by decide +kernel
theorem dX8_count_94 : decode cX8_count 94 = .ok (.iaload, 1) := by decide +kernel
theorem dX8_count_95 : decode cX8_count 95 = .ok (.ireturn, 1) := by decide +kernel
theorem dX8_count_96 : decode cX8_count 96 = .ok (.aload_n 0, 1) := by decide +kernel
theorem dX8_count_97 : decode cX8_count 97 = .ok (.invokevirtual 155, 3) := by decide +kernel
theorem dX8_count_100 : decode cX8_count 100 = .ok (.invokestatic 215, 3) := by decide +kernel
theorem dX8_count_103 : decode cX8_count 103 = .ok (.ireturn, 1) := by decide +kernel
theorem dX8_count_104 : decode cX8_count 104 = .ok (.aload_n 0, 1) := by decide +kernel
theorem dX8_count_105 : decode cX8_count 105 = .ok (.iconst 0, 1) := by decide +kernel
theorem dX8_count_106 : decode cX8_count 106 = .ok (.iconst 1, 1) := by decide +kernel
theorem dX8_count_107 : decode cX8_count 107 = .ok (.invokevirtual 184, 3) := by decide +kernel
theorem dX8_count_110 : decode cX8_count 110 = .ok (.ireturn, 1) := by decide +kernel
theorem dX8_count_111 : decode cX8_count 111 = .ok (.aload_n 0, 1) := by decide +kernel
theorem dX8_count_112 : decode cX8_count 112 = .ok (.getfield 19, 3) := by decide +kernel
theorem dX8_count_115 : decode cX8_count 115 = .ok (.iconst 4, 1) := by decide +kernel
theorem dX8_count_116 : decode cX8_count 116 = .ok (.iaload, 1) := by decide +kernel
theorem dX8_count_117 : decode cX8_count 117 = .ok (.ireturn, 1) := by decide +kernel
theorem dX8_count_118 : decode cX8_count 118 = .ok (.aload_n 0, 1) := by decide +kernel
theorem dX8_count_119 : decode cX8_count 119 = .ok (.getfield 139, 3) := by decide +kernel
theorem dX8_count_122 : decode cX8_count 122 = .ok (.ireturn, 1) := by decide +kernel
theorem dX8_count_123 : decode cX8_count 123 = .ok (.aload_n 0, 1) := by decide +kernel
theorem dX8_count_124 : decode cX8_count 124 = .ok (.getfield 81, 3) := by decide +kernel
theorem dX8_count_127 : decode cX8_count 127 = .ok (.ireturn, 1) := by decide +kernel
theorem dX8_count_128 : decode cX8_count 128 = .ok (.ldc 67, 2) := by decide +kernel
theorem dX8_count_130 : decode cX8_count 130 = .ok (.ireturn, 1) := by decide +kernel
theorem dX8_status_0 : decode cX8_status 0 = .ok (.aload_n 0, 1) := by decide +kernel
theorem dX8_status_1 : decode cX8_status 1 = .ok (.getfield 50, 3) := by decide +kernel
theorem dX8_status_4 : decode cX8_status 4 = .ok (.ireturn, 1) := by decide +kernel
end
section
/-! THE BASE: an abstract heap of numbered places over the kit's worlds; one judgement R for a walk inside a method, one contract C for a method. A place k lies at the address base + k. -/
def TS : List Cond := lw_tbl.filter goodWord
theorem TS_good : GoodIn TS TS := fun _ h => ⟨h, good_of_word (List.mem_filter.mp h).2⟩
/-- a word of the tables, by its place -/
theorem TSi {w : Cond} (i : Nat) (h : lw_tbl[i]? = some w) (g : goodWord w = true) : w ∈ TS := List.mem_filter.mpr ⟨List.mem_of_getElem? h, g⟩
abbrev AH : Type := List (Nat × List Value)
abbrev AL : Type := List (Nat × Value)
/-- flag (sizes are known), base, classes, array classes, the literal's address and its bytes' -/
abbrev EE : Type := Bool × Nat × va_G × (ClassId × ClassId × ClassId × ClassId) × Nat × Nat
abbrev cls0 : List vw_C := [(RX0, TX0, 3), (RX1, TX1, 6), (RX2, TX2, 4), (RX3, TX3, 5), (RX4, TX4, 4), (RX5, TX5, 8), (RX6, TX6, 5), (RX7, TX7, 10), (RX8, TX8, 24)]
/-- a place below 1000 is a cell of ours; 1000 is the literal, 1001 its bytes; from 1002 on: an address as it is -/
def pa (E : EE) (k : Nat) : Nat := if k < 1000 then E.2.1 + k else if k = 1000 then E.2.2.2.2.1 else if k = 1001 then E.2.2.2.2.2 else k - 1002
def tr (b : EE) (v : Value) : Value := match v with
  | .ref k => .ref (pa b k)
  | w => w
def iv (v : Value) : Int32 := match v with
  | .int x => x
  | _ => 0
def rv (b : EE) (v : Value) : Option Nat := match v with
  | .ref k => some (pa b k)
  | _ => none
def cE (E : EE) (c : Nat × List Value) : va_E :=
  if c.1 < 20 then .inr (c.1, c.2.map (tr E))
  else if c.1 = 20 then .inl (E.2.2.2.1.1, c.2.length, .inl (fun j => iv (c.2.getD j .null)))
  else if c.1 = 21 then .inl (E.2.2.2.1.2.1, c.2.length, .inl (fun j => iv (c.2.getD j .null)))
  else if c.1 = 22 then .inl (E.2.2.2.1.2.2.1, c.2.length, .inr (.inr (.inr (.inr (fun j => rv E (c.2.getD j .null))))))
  else .inl (E.2.2.2.1.2.2.2, c.2.length, .inr (.inr (.inr (.inr (fun j => rv E (c.2.getD j .null))))))
def conc (E : EE) (h : AH) : va_W := h.mapIdx (fun k c => (E.2.1 + k, cE E c))
abbrev tysE (E : EE) : List (ClassId × FieldType) := [(E.2.2.2.1.1, .int), (E.2.2.2.1.2.1, .boolean), (E.2.2.2.1.2.2.1, .object RX5), (E.2.2.2.1.2.2.2, .object RX4)]
def mine (E : EE) : Nat → Prop := fun q => E.2.1 ≤ q
def RepH (E : EE) (h : AH) (H : Heap) : Prop := (E.1 = true → H.size = E.2.1 + h.length) ∧ h.length ≤ 1000 ∧ va_P E.2.2.1 cls0 (conc E h) H
theorem conc_at {E : EE} {h : AH} {k : Nat} {c : Nat × List Value} (hk : h[k]? = some c) : (conc E h)[k]? = some (E.2.1 + k, cE E c) := by
  unfold conc
  rw [List.getElem?_mapIdx, hk]
  rfl
theorem conc_D {E : EE} (h : AH) : va_D (mine E) (conc E h) := by
  refine ⟨fun i j p q hi hj e => ?_, fun k q hk => ?_⟩
  · unfold conc at hi hj
    rw [List.getElem?_mapIdx] at hi hj
    cases h1 : h[i]? with
    | none => rw [h1] at hi; cases hi
    | some c1 =>
      cases h2 : h[j]? with
      | none => rw [h2] at hj; cases hj
      | some c2 =>
        rw [h1] at hi
        rw [h2] at hj
        cases hi
        cases hj
        exact Nat.add_left_cancel e
  · unfold conc at hk
    rw [List.getElem?_mapIdx] at hk
    cases h1 : h[k]? with
    | none => rw [h1] at hk; cases hk
    | some c1 =>
      rw [h1] at hk
      cases hk
      exact Nat.le_add_right _ _
theorem conc_set {E : EE} (h : AH) (k : Nat) (c : Nat × List Value) : (conc E h).set k (E.2.1 + k, cE E c) = conc E (h.set k c) := by
  unfold conc
  apply List.ext_getElem?
  intro i
  simp only [List.getElem?_set, List.getElem?_mapIdx, List.length_mapIdx]
  by_cases e : k = i
  · subst e
    by_cases hl : k < h.length
    · simp [hl]
    · simp [hl]
  · simp [e]
theorem conc_push {E : EE} (h : AH) (c : Nat × List Value) : conc E h ++ [(E.2.1 + h.length, cE E c)] = conc E (h ++ [c]) := by
  unfold conc
  rw [List.mapIdx_append]
  simp
theorem pa_lt {b : EE} {k : Nat} (h : k < 1000) : pa b k = b.2.1 + k := if_pos h
theorem pa_at {h : AH} {b : EE} {k : Nat} {c : Nat × List Value} (hl : h.length ≤ 1000) (hk : h[k]? = some c) : pa b k = b.2.1 + k := pa_lt (Nat.lt_of_lt_of_le (List.getElem?_eq_some_iff.mp hk).1 hl)
theorem tr_cat (b : EE) (v : Value) : (tr b v).category = v.category := by cases v <;> rfl
theorem tr_int (b : EE) (x : Int32) : tr b (.int x) = .int x := rfl
theorem tr_long (b : EE) (x : Int64) : tr b (.long x) = .long x := rfl
theorem rv_tr (b : EE) {v : Value} (h : v = .null ∨ ∃ k, v = .ref k) : va_rf (rv b v) = tr b v := by
  rcases h with rfl | ⟨k, rfl⟩ <;> rfl
/-- the locals -/
def lk (L : AL) (i : Nat) : Option Value := match L with
  | [] => none
  | q :: t => if q.1 = i then some q.2 else lk t i
def trL (b : EE) (L : AL) : AL := L.map fun q => (q.1, tr b q.2)
theorem lk_has {ls : Array Slot} {b : EE} {n i : Nat} {L : AL} {v : Value} (h : lv_has ls n (trL b L)) (hk : lk L i = some v) : ls[i]? = some (.val (tr b v)) := by
  have key : ∀ L : AL, lk L i = some v → (i, tr b v) ∈ trL b L := by
    intro L
    induction L with
    | nil => intro hk; cases hk
    | cons q t ih =>
      intro hk
      unfold lk at hk
      by_cases e : q.1 = i
      · rw [if_pos e] at hk
        cases hk
        subst e
        exact List.mem_cons_self
      · rw [if_neg e] at hk
        exact List.mem_cons_of_mem _ (ih hk)
  exact h.2.2 _ (key L hk)
abbrev sto1 (i : Nat) (v : Value) (L : AL) : AL := (i, v) :: L.filter (fun q => !(q.1 == i) && !(q.1 + 1 == i && q.2.category == 2))
abbrev sto2 (i : Nat) (v : Value) (L : AL) : AL := (i, v) :: L.filter (fun q => !(q.1 == i) && (!(q.1 == i + 1) && !(q.1 + 1 == i && q.2.category == 2)))
theorem sto1_tr (b : EE) (i : Nat) (v : Value) (L : AL) : (i, tr b v) :: (trL b L).filter (fun q => !(q.1 == i) && !(q.1 + 1 == i && q.2.category == 2)) = trL b (sto1 i v L) := by
  unfold trL sto1
  rw [List.map_cons, List.filter_map]
  congr 3
  funext q
  simp [tr_cat]
theorem sto2_tr (b : EE) (i : Nat) (v : Value) (L : AL) : (i, tr b v) :: (trL b L).filter (fun q => !(q.1 == i) && (!(q.1 == i + 1) && !(q.1 + 1 == i && q.2.category == 2))) = trL b (sto2 i v L) := by
  unfold trL sto2
  rw [List.map_cons, List.filter_map]
  congr 3
  funext q
  simp [tr_cat]
theorem lv_args_tr (b : EE) : ∀ (vs : List Value) (i : Nat), lv_args i (vs.map (tr b)) = trL b (lv_args i vs) := by
  intro vs
  induction vs with
  | nil => intro i; rfl
  | cons v vs ih =>
    intro i
    show (i, tr b v) :: lv_args (if (tr b v).category = 2 then i + 2 else i + 1) (vs.map (tr b)) = _
    rw [tr_cat, ih]
    rfl
/-- what holds of the tables and of the cells below the base -/
abbrev NW : Type := String × Nat × MethodName × String
def nestL : List NW := [(RX7, 17, yX6_init, RX7), (RX7, 24, yX5_init, RX7), (RX7, 42, yX2_init, RX7), (RX7, 56, yX1_init, RX7), (RX7, 61, yX4_init, RX7), (RX7, 237, yX2_play, RX7), (RX0, 17, yX5_init, RX7), (RX2, 11, yX5_init, RX7), (RX3, 24, yX5_init, RX7), (RX3, 46, yX7_within, RX7), (RX6, 11, yX5_init, RX7), (RX6, 72, yX7_within, RX7)]
def SO (E : EE) (U : State) (H : Heap) : Prop := va_Z "java/lang/String" "COMPACT_STRINGS" "Z" (.int 1) (mine E) U H ∧ vk_S 1 [5] [[119, 99, 115, 112, 107]] (fun _ => E.2.2.2.2.1) (fun _ => E.2.2.2.2.2) (mine E) U H ∧ vk_R RX6 60 "wcspk" E.2.2.2.2.1 U
def RepK (E : EE) (U : State) : Prop := va_K E.2.2.1 cls0 (tysE E) U ∧ (∀ q ∈ nestL, va_Nw (.methodLinkNest q.1 q.2.1 q.2.2.1 q.2.2.2) U) ∧ SO E U U.heap ∧ va_AO RX5 U ∧ va_AO RX4 U
theorem RepK.go {E : EE} {s U : State} (h : RepK E s) (hW : s.WarmedH U.vm) (hk : ∀ q : Nat, q < s.heap.size → ¬ mine E q → U.heap[q]? = s.heap[q]?) : RepK E U := by
  obtain ⟨h1, h2, ⟨h3, h4, h5⟩, h6, h7⟩ := h
  exact ⟨va_K.moved hW.alike h1, fun q hq => va_Nw.warmM hW (h2 q hq), ⟨(va_Z.moved hW.alike h3).kept hk, (vk_S.moved hW.alike h4).kept hk, h5.warm hW⟩, va_AO.moved hW.alike h6, va_AO.moved hW.alike h7⟩
theorem RepK.calling {E : EE} {U : State} {g : JFrame} {mk : MethodId} {a : Array Value} (h : RepK E U) : RepK E (U.calling g mk a) := by
  obtain ⟨h1, h2, ⟨h3, h4, h5⟩, h6, h7⟩ := h
  exact ⟨va_K.moved (u := U) (U := U.calling g mk a) (Vm.Alike.refl U.vm) h1, fun q hq => va_Nw.same rfl rfl (h2 q hq), ⟨va_Z.moved (u := U) (U := U.calling g mk a) (Vm.Alike.refl U.vm) h3, vk_S.moved (u := U) (U := U.calling g mk a) (Vm.Alike.refl U.vm) h4, vk_R.same (u := U) (U := U.calling g mk a) rfl h5⟩, va_AO.moved (u := U) (U := U.calling g mk a) (Vm.Alike.refl U.vm) h6, va_AO.moved (u := U) (U := U.calling g mk a) (Vm.Alike.refl U.vm) h7⟩
/-- a method: its name, code, locals, return type -/
abbrev MD : Type := MethodName × ByteArray × Nat × Option FieldType
abbrev wsM (M : MD) : List Cond := .code M.1 M.2.1 M.2.2.1 M.2.2.2 :: TS
abbrev rmM (d mc ms : Nat) : Room := { frames := d, cells := mc, slots := ms, locals := 60 * d }
def PcE (E : EE) (args : List Value) (h : AH) : Array Value → State → Prop := fun v U => v = (args.map (tr E)).toArray ∧ RepH E h U.heap ∧ RepK E U ∧ E.2.1 ≤ U.heap.size
def QcE (E : EE) (Q : Option Value → AH → Prop) : Array Value → State → Outcome → State → Prop := fun _ st o t => ∃ v h', o = .returned (v.map (tr E)) ∧ Q v h' ∧ RepH E h' t.heap ∧ va_F (mine E) st t
theorem PcE.blind (E : EE) (args : List Value) (h : AH) : FrameBlind (PcE E args h) := fun _ _ _ _ q => ⟨q.1, q.2.1, q.2.2.1.calling, q.2.2.2⟩
/-- the contract -/
def C (z : Bool) (d : Nat) (M : MD) (mc ms : Nat) (args : List Value) (h : AH) (Q : Option Value → AH → Prop) : Prop :=
  ∀ (l : Launch) (E : EE), E.1 = z → Met l M.1 (wsM M) (rmM d mc ms) (PcE E args h) (QcE E Q) mc ms (mine E)
abbrev CX : Type := Program × Launch × Env × Room × State × MethodId × Array Value × List Frame × Method × Code × (State → Prop) × EE
def R (X : CX) (M : MD) (pc : Nat) (L : AL) (st : List Value) (h : AH) (cs sl : Nat) : Prop := match X with
  | (p, l, e, Rm, s, m, args, below, meth, c, Q, E) => ∀ (H : Heap) (locs : List Loc) (ls : Array Slot), lv_has ls M.2.2.1 (trL E L) → RepH E h H → va_S (mine E) s.heap H locs → W p l e Rm s m args below meth c H locs cs sl Q (F0 m pc ls (st.map (tr E)))
/-- the cells, slots that stand made while a method runs: the law's own, else none -/
def cX (X : CX) : Nat := if X.2.2.2.2.2.2.2.2.1.name = "law" then 197 else 0
def sX (X : CX) : Nat := if X.2.2.2.2.2.2.2.2.1.name = "law" then 3769 else 0
def OKX (X : CX) (z : Bool) (d : Nat) (M : MD) : Prop := match X with
  | (p, _, _, Rm, s, m, args, _, meth, c, _, E) => p.tables.exec = Jvm.exec ∧ c.code = M.2.1 ∧ c.maxLocals = M.2.2.1 ∧ s.vm.findClass M.1.cls = some m.cls ∧ (∀ w ∈ TS, w.before args s = true) ∧ RepK E s ∧ meth.sig.returnType = M.2.2.2 ∧ meth.locks = false ∧ E.2.1 ≤ s.heap.size ∧ meth.name = M.1.name ∧ (d ≤ Rm.frames ∧ 60 * d ≤ Rm.locals ∧ (if meth.name = "law" then 197 else 0) ≤ Rm.cells ∧ (if meth.name = "law" then 3769 else 0) ≤ Rm.slots) ∧ E.1 = z
def OKQ (X : CX) (mc ms : Nat) (Qp : Option Value → AH → Prop) : Prop := match X with
  | (_, _, _, Rm, s, _, args, below, _, _, Q, E) => Q = MQ below (QcE E Qp) args s mc ms (mine E) ∧ mc ≤ Rm.cells ∧ ms ≤ Rm.slots
theorem OKX.room {X : CX} {z : Bool} {d : Nat} {M : MD} (hO : OKX X z d M) : cX X ≤ X.2.2.2.1.cells ∧ sX X ≤ X.2.2.2.1.slots := by
  obtain ⟨p, l, e, Rm, s, m, args, below, meth, c, Q, E⟩ := X
  exact hO.2.2.2.2.2.2.2.2.2.2.1.2.2
theorem OKX.none {X : CX} {z : Bool} {d : Nat} {M : MD} (hO : OKX X z d M) (h : M.1.name ≠ "law") : cX X = 0 ∧ sX X = 0 := by
  obtain ⟨p, l, e, Rm, s, m, args, below, meth, c, Q, E⟩ := X
  have hn : meth.name = M.1.name := hO.2.2.2.2.2.2.2.2.2.1
  have hno : ¬ meth.name = "law" := by rw [hn]; exact h
  exact ⟨if_neg hno, if_neg hno⟩
set_option maxHeartbeats 1000000 in
theorem C.of {z : Bool} {d : Nat} {M : MD} {mc ms : Nat} {args : List Value} {h : AH} {Qp : Option Value → AH → Prop} (hy : plainName M.1.cls = true ∧ M.1.name ≠ "law") (hn : (lg_sl args).length ≤ M.2.2.1)
    (k : ∀ X : CX, OKX X z d M → OKQ X mc ms Qp → R X M 0 (lv_args 0 args) [] h 0 0) : C z d M mc ms args h Qp := by
  intro l E hz
  refine Met.ofW (cc := M.2.1) (maxL := M.2.2.1) (ret := M.2.2.2) hy.1 rfl ?_
  intro p e s m ar below meth c s₁ B hml hv
  obtain ⟨rfl, hR, hK, hE⟩ := hv
  have hts := atoms_spec (ws := wsM M) B.pre
  have hnm := (name_of_methodNamed B.named B.method).1
  have hno : ¬ meth.name = "law" := by rw [hnm]; exact hy.2
  have K := k (p, l, e, (headSpec (wsM M) (rmM d mc ms)).room, s, m, (args.map (tr E)).toArray, below, meth, c, MQ below (QcE E Qp) (args.map (tr E)).toArray s mc ms (mine E), E) ⟨B.exec, B.bytes, hml, findClass_of_methodNamed B.named, fun w hw => hts w (List.mem_cons_of_mem _ hw), hK, B.returns, B.notSynchronized, hE, hnm, ⟨Nat.le_refl _, Nat.le_refl _, by rw [if_neg hno]; exact Nat.zero_le _, by rw [if_neg hno]; exact Nat.zero_le _⟩, hz⟩ ⟨rfl, Nat.le_refl _, Nat.le_refl _⟩
  rw [lg_entry_eq]
  have hn' : (lg_sl (args.map (tr E))).length ≤ M.2.2.1 := by
    have e : ∀ vs : List Value, (lg_sl (vs.map (tr E))).length = (lg_sl vs).length := by
      intro vs
      induction vs with
      | nil => rfl
      | cons v vs ih =>
        simp only [lg_sl, List.map_cons, List.flatMap_cons, List.length_append] at ih ⊢
        rw [ih, tr_cat]
        cases v <;> rfl
    rw [e]; exact hn
  have hl := lv_entry (args.map (tr E)) (n := M.2.2.1) hn'
  rw [lv_args_tr] at hl
  exact K s.heap [] _ hl hR va_S.rf
end
section
/-! RULES: a kit row each, over the judgement R. -/
section RULES
variable {X : CX} {z : Bool} {d : Nat} {M : MD} {pc : Nat} {L : AL} {st : List Value} {h : AH} {cs sl : Nat}
theorem R_iload {i : Nat} {x : Int32} (hO : OKX X z d M) (dc : decode M.2.1 pc = .ok (.iload i, 2)) (hg : lk L i = some (.int x)) (k : R X M (pc + 2) L (.int x :: st) h cs sl) : R X M pc L (st) h cs sl := by
  obtain ⟨p, l, e, Rm, s, m, args, below, meth, c, Q, E⟩ := X
  obtain ⟨hx, hb, hml, hown, hts, hK, hr, hlk, hE, hnm, hrm, hz⟩ := hO
  intro H locs ls hl hP hS
  exact lv_iload hx hb dc (lk_has hl hg) (k H locs ls hl hP hS)
theorem R_iload_n {j : Fin 4} {x : Int32} (hO : OKX X z d M) (dc : decode M.2.1 pc = .ok (.iload_n j, 1)) (hg : lk L (j : Nat) = some (.int x)) (k : R X M (pc + 1) L (.int x :: st) h cs sl) : R X M pc L (st) h cs sl := by
  obtain ⟨p, l, e, Rm, s, m, args, below, meth, c, Q, E⟩ := X
  obtain ⟨hx, hb, hml, hown, hts, hK, hr, hlk, hE, hnm, hrm, hz⟩ := hO
  intro H locs ls hl hP hS
  exact lv_iload_n hx hb dc rfl (lk_has hl hg) (k H locs ls hl hP hS)
theorem R_lload {i : Nat} {x : Int64} (hO : OKX X z d M) (dc : decode M.2.1 pc = .ok (.lload i, 2)) (hg : lk L i = some (.long x)) (k : R X M (pc + 2) L (.long x :: st) h cs sl) : R X M pc L (st) h cs sl := by
  obtain ⟨p, l, e, Rm, s, m, args, below, meth, c, Q, E⟩ := X
  obtain ⟨hx, hb, hml, hown, hts, hK, hr, hlk, hE, hnm, hrm, hz⟩ := hO
  intro H locs ls hl hP hS
  exact lv_lload hx hb dc (lk_has hl hg) (k H locs ls hl hP hS)
theorem R_lload_n {j : Fin 4} {x : Int64} (hO : OKX X z d M) (dc : decode M.2.1 pc = .ok (.lload_n j, 1)) (hg : lk L (j : Nat) = some (.long x)) (k : R X M (pc + 1) L (.long x :: st) h cs sl) : R X M pc L (st) h cs sl := by
  obtain ⟨p, l, e, Rm, s, m, args, below, meth, c, Q, E⟩ := X
  obtain ⟨hx, hb, hml, hown, hts, hK, hr, hlk, hE, hnm, hrm, hz⟩ := hO
  intro H locs ls hl hP hS
  exact lv_lload_n hx hb dc rfl (lk_has hl hg) (k H locs ls hl hP hS)
theorem R_aload {i a : Nat} (hO : OKX X z d M) (dc : decode M.2.1 pc = .ok (.aload i, 2)) (hg : lk L i = some (.ref a)) (k : R X M (pc + 2) L (.ref a :: st) h cs sl) : R X M pc L (st) h cs sl := by
  obtain ⟨p, l, e, Rm, s, m, args, below, meth, c, Q, E⟩ := X
  obtain ⟨hx, hb, hml, hown, hts, hK, hr, hlk, hE, hnm, hrm, hz⟩ := hO
  intro H locs ls hl hP hS
  exact lv_aload hx hb dc (lk_has hl hg) (k H locs ls hl hP hS)
theorem R_aload_n {j : Fin 4} {a : Nat} (hO : OKX X z d M) (dc : decode M.2.1 pc = .ok (.aload_n j, 1)) (hg : lk L (j : Nat) = some (.ref a)) (k : R X M (pc + 1) L (.ref a :: st) h cs sl) : R X M pc L (st) h cs sl := by
  obtain ⟨p, l, e, Rm, s, m, args, below, meth, c, Q, E⟩ := X
  obtain ⟨hx, hb, hml, hown, hts, hK, hr, hlk, hE, hnm, hrm, hz⟩ := hO
  intro H locs ls hl hP hS
  exact lv_aload_n hx hb dc rfl (lk_has hl hg) (k H locs ls hl hP hS)
theorem R_istore {i : Nat} {x : Int32} {L2 : AL} (hO : OKX X z d M) (dc : decode M.2.1 pc = .ok (.istore i, 2)) (hi : i < M.2.2.1) (hg : sto1 i (.int x) L = L2) (k : R X M (pc + 2) L2 (st) h cs sl) : R X M pc L (.int x :: st) h cs sl := by
  obtain ⟨p, l, e, Rm, s, m, args, below, meth, c, Q, E⟩ := X
  obtain ⟨hx, hb, hml, hown, hts, hK, hr, hlk, hE, hnm, hrm, hz⟩ := hO
  intro H locs ls hl hP hS
  exact lv_istore hx hb dc hl hi (sto1_tr E i (.int x) L) (fun ls hl => k H locs ls (hg ▸ hl) hP hS)
theorem R_istore_n {j : Fin 4} {x : Int32} {L2 : AL} (hO : OKX X z d M) (dc : decode M.2.1 pc = .ok (.istore_n j, 1)) (hi : (j : Nat) < M.2.2.1) (hg : sto1 (j : Nat) (.int x) L = L2) (k : R X M (pc + 1) L2 (st) h cs sl) : R X M pc L (.int x :: st) h cs sl := by
  obtain ⟨p, l, e, Rm, s, m, args, below, meth, c, Q, E⟩ := X
  obtain ⟨hx, hb, hml, hown, hts, hK, hr, hlk, hE, hnm, hrm, hz⟩ := hO
  intro H locs ls hl hP hS
  exact lv_istore_n hx hb dc rfl hl hi (sto1_tr E (j : Nat) (.int x) L) (fun ls hl => k H locs ls (hg ▸ hl) hP hS)
theorem R_astore {i : Nat} {x : Nat} {L2 : AL} (hO : OKX X z d M) (dc : decode M.2.1 pc = .ok (.astore i, 2)) (hi : i < M.2.2.1) (hg : sto1 i (.ref x) L = L2) (k : R X M (pc + 2) L2 (st) h cs sl) : R X M pc L (.ref x :: st) h cs sl := by
  obtain ⟨p, l, e, Rm, s, m, args, below, meth, c, Q, E⟩ := X
  obtain ⟨hx, hb, hml, hown, hts, hK, hr, hlk, hE, hnm, hrm, hz⟩ := hO
  intro H locs ls hl hP hS
  exact lv_astore hx hb dc hl hi (sto1_tr E i (.ref x) L) (fun ls hl => k H locs ls (hg ▸ hl) hP hS)
theorem R_astore_n {j : Fin 4} {x : Nat} {L2 : AL} (hO : OKX X z d M) (dc : decode M.2.1 pc = .ok (.astore_n j, 1)) (hi : (j : Nat) < M.2.2.1) (hg : sto1 (j : Nat) (.ref x) L = L2) (k : R X M (pc + 1) L2 (st) h cs sl) : R X M pc L (.ref x :: st) h cs sl := by
  obtain ⟨p, l, e, Rm, s, m, args, below, meth, c, Q, E⟩ := X
  obtain ⟨hx, hb, hml, hown, hts, hK, hr, hlk, hE, hnm, hrm, hz⟩ := hO
  intro H locs ls hl hP hS
  exact lv_astore_n hx hb dc rfl hl hi (sto1_tr E (j : Nat) (.ref x) L) (fun ls hl => k H locs ls (hg ▸ hl) hP hS)
theorem R_lstore {i : Nat} {x : Int64} {L2 : AL} (hO : OKX X z d M) (dc : decode M.2.1 pc = .ok (.lstore i, 2)) (hi : i + 1 < M.2.2.1) (hg : sto2 i (.long x) L = L2) (k : R X M (pc + 2) L2 (st) h cs sl) : R X M pc L (.long x :: st) h cs sl := by
  obtain ⟨p, l, e, Rm, s, m, args, below, meth, c, Q, E⟩ := X
  obtain ⟨hx, hb, hml, hown, hts, hK, hr, hlk, hE, hnm, hrm, hz⟩ := hO
  intro H locs ls hl hP hS
  exact lv_lstore hx hb dc hl hi (sto2_tr E i (.long x) L) (fun ls hl => k H locs ls (hg ▸ hl) hP hS)
theorem R_lstore_n {j : Fin 4} {x : Int64} {L2 : AL} (hO : OKX X z d M) (dc : decode M.2.1 pc = .ok (.lstore_n j, 1)) (hi : (j : Nat) + 1 < M.2.2.1) (hg : sto2 (j : Nat) (.long x) L = L2) (k : R X M (pc + 1) L2 (st) h cs sl) : R X M pc L (.long x :: st) h cs sl := by
  obtain ⟨p, l, e, Rm, s, m, args, below, meth, c, Q, E⟩ := X
  obtain ⟨hx, hb, hml, hown, hts, hK, hr, hlk, hE, hnm, hrm, hz⟩ := hO
  intro H locs ls hl hP hS
  exact lv_lstore_n hx hb dc rfl hl hi (sto2_tr E (j : Nat) (.long x) L) (fun ls hl => k H locs ls (hg ▸ hl) hP hS)
theorem trL_at {b : EE} {i : Nat} {x : Int32} : ∀ {L : AL}, lk L i = some (.int x) → ∃ k : Nat, (trL b L)[k]? = some (i, .int x) := by
  intro L
  induction L with
  | nil => intro h; cases h
  | cons q t ih =>
    intro h
    unfold lk at h
    by_cases e : q.1 = i
    · rw [if_pos e] at h
      cases q with
      | mk a v =>
        cases h
        cases e
        exact ⟨0, rfl⟩
    · rw [if_neg e] at h
      obtain ⟨k, hk⟩ := ih h
      exact ⟨k + 1, hk⟩
theorem R_iinc {i : Nat} {n : Int} {x v : Int32} {L2 : AL} (hO : OKX X z d M) (dc : decode M.2.1 pc = .ok (.iinc i n, 3)) (hx0 : lk L i = some (.int x)) (hv : x + Int32.ofInt n = v) (hi : i < M.2.2.1) (hg : sto1 i (.int v) L = L2) (k : R X M (pc + 3) L2 (st) h cs sl) : R X M pc L (st) h cs sl := by
  obtain ⟨p, l, e, Rm, s, m, args, below, meth, c, Q, E⟩ := X
  obtain ⟨hx, hb, hml, hown, hts, hK, hr, hlk, hE, hnm, hrm, hz⟩ := hO
  intro H locs ls hl hP hS
  obtain ⟨k0, hk0⟩ := trL_at (b := E) hx0
  exact lv_iinc hx hb dc hl hk0 hv hi (sto1_tr E i (.int v) L) (fun ls hl => k H locs ls (hg ▸ hl) hP hS)
theorem R_iconst {n : Int} {v : Int32} (hO : OKX X z d M) (dc : decode M.2.1 pc = .ok (.iconst n, 1)) (hv : Int32.ofInt n = v) (k : R X M (pc + 1) L (.int v :: st) h cs sl) : R X M pc L (st) h cs sl := by
  obtain ⟨p, l, e, Rm, s, m, args, below, meth, c, Q, E⟩ := X
  obtain ⟨hx, hb, hml, hown, hts, hK, hr, hlk, hE, hnm, hrm, hz⟩ := hO
  intro H locs ls hl hP hS
  exact lv_iconst hx hb dc hv (k H locs ls hl hP hS)
theorem R_bipush {n : Int} {v : Int32} (hO : OKX X z d M) (dc : decode M.2.1 pc = .ok (.bipush n, 2)) (hv : (Int8.ofInt n).toInt32 = v) (k : R X M (pc + 2) L (.int v :: st) h cs sl) : R X M pc L (st) h cs sl := by
  obtain ⟨p, l, e, Rm, s, m, args, below, meth, c, Q, E⟩ := X
  obtain ⟨hx, hb, hml, hown, hts, hK, hr, hlk, hE, hnm, hrm, hz⟩ := hO
  intro H locs ls hl hP hS
  exact lv_bipush hx hb dc hv (k H locs ls hl hP hS)
theorem R_sipush {n : Int} {v : Int32} (hO : OKX X z d M) (dc : decode M.2.1 pc = .ok (.sipush n, 3)) (hv : (Int16.ofInt n).toInt32 = v) (k : R X M (pc + 3) L (.int v :: st) h cs sl) : R X M pc L (st) h cs sl := by
  obtain ⟨p, l, e, Rm, s, m, args, below, meth, c, Q, E⟩ := X
  obtain ⟨hx, hb, hml, hown, hts, hK, hr, hlk, hE, hnm, hrm, hz⟩ := hO
  intro H locs ls hl hP hS
  exact lv_sipush hx hb dc hv (k H locs ls hl hP hS)
theorem R_lconst {n : Fin 2} {v : Int64} (hO : OKX X z d M) (dc : decode M.2.1 pc = .ok (.lconst n, 1)) (hv : Int64.ofNat (n : Nat) = v) (k : R X M (pc + 1) L (.long v :: st) h cs sl) : R X M pc L (st) h cs sl := by
  obtain ⟨p, l, e, Rm, s, m, args, below, meth, c, Q, E⟩ := X
  obtain ⟨hx, hb, hml, hown, hts, hK, hr, hlk, hE, hnm, hrm, hz⟩ := hO
  intro H locs ls hl hP hS
  exact lv_lconst hx hb dc hv (k H locs ls hl hP hS)
theorem R_ldc {i : Nat} {v : Int32} (hO : OKX X z d M) (dc : decode M.2.1 pc = .ok (.ldc i, 2)) (hw : Cond.constant M.1.cls i v ∈ TS) (k : R X M (pc + 2) L (.int v :: st) h cs sl) : R X M pc L (st) h cs sl := by
  obtain ⟨p, l, e, Rm, s, m, args, below, meth, c, Q, E⟩ := X
  obtain ⟨hx, hb, hml, hown, hts, hK, hr, hlk, hE, hnm, hrm, hz⟩ := hO
  intro H locs ls hl hP hS
  exact lv_ldc hx hb hown (hts _ hw) dc (k H locs ls hl hP hS)
theorem R_ldc_w {i : Nat} {v : Int32} (hO : OKX X z d M) (dc : decode M.2.1 pc = .ok (.ldc_w i, 3)) (hw : Cond.constant M.1.cls i v ∈ TS) (k : R X M (pc + 3) L (.int v :: st) h cs sl) : R X M pc L (st) h cs sl := by
  obtain ⟨p, l, e, Rm, s, m, args, below, meth, c, Q, E⟩ := X
  obtain ⟨hx, hb, hml, hown, hts, hK, hr, hlk, hE, hnm, hrm, hz⟩ := hO
  intro H locs ls hl hP hS
  exact lv_ldcw hx hb hown (hts _ hw) dc (k H locs ls hl hP hS)
theorem R_ldc2 {i : Nat} {v : Int64} (hO : OKX X z d M) (dc : decode M.2.1 pc = .ok (.ldc2_w i, 3)) (hw : Cond.constantLong M.1.cls i v ∈ TS) (k : R X M (pc + 3) L (.long v :: st) h cs sl) : R X M pc L (st) h cs sl := by
  obtain ⟨p, l, e, Rm, s, m, args, below, meth, c, Q, E⟩ := X
  obtain ⟨hx, hb, hml, hown, hts, hK, hr, hlk, hE, hnm, hrm, hz⟩ := hO
  intro H locs ls hl hP hS
  exact lv_ldc2 hx hb hown (hts _ hw) dc (k H locs ls hl hP hS)
theorem R_iadd {x y : Int32} (hO : OKX X z d M) (dc : decode M.2.1 pc = .ok (.iadd, 1)) (k : R X M (pc + 1) L (.int (x + y) :: st) h cs sl) : R X M pc L (.int y :: .int x :: st) h cs sl := by
  obtain ⟨p, l, e, Rm, s, m, args, below, meth, c, Q, E⟩ := X
  obtain ⟨hx, hb, hml, hown, hts, hK, hr, hlk, hE, hnm, hrm, hz⟩ := hO
  intro H locs ls hl hP hS
  exact lv_iadd hx hb dc (k H locs ls hl hP hS)
theorem R_isub {x y : Int32} (hO : OKX X z d M) (dc : decode M.2.1 pc = .ok (.isub, 1)) (k : R X M (pc + 1) L (.int (x - y) :: st) h cs sl) : R X M pc L (.int y :: .int x :: st) h cs sl := by
  obtain ⟨p, l, e, Rm, s, m, args, below, meth, c, Q, E⟩ := X
  obtain ⟨hx, hb, hml, hown, hts, hK, hr, hlk, hE, hnm, hrm, hz⟩ := hO
  intro H locs ls hl hP hS
  exact lv_isub hx hb dc (k H locs ls hl hP hS)
theorem R_imul {x y : Int32} (hO : OKX X z d M) (dc : decode M.2.1 pc = .ok (.imul, 1)) (k : R X M (pc + 1) L (.int (x * y) :: st) h cs sl) : R X M pc L (.int y :: .int x :: st) h cs sl := by
  obtain ⟨p, l, e, Rm, s, m, args, below, meth, c, Q, E⟩ := X
  obtain ⟨hx, hb, hml, hown, hts, hK, hr, hlk, hE, hnm, hrm, hz⟩ := hO
  intro H locs ls hl hP hS
  exact lv_imul hx hb dc (k H locs ls hl hP hS)
theorem R_iand {x y : Int32} (hO : OKX X z d M) (dc : decode M.2.1 pc = .ok (.iand, 1)) (k : R X M (pc + 1) L (.int (x &&& y) :: st) h cs sl) : R X M pc L (.int y :: .int x :: st) h cs sl := by
  obtain ⟨p, l, e, Rm, s, m, args, below, meth, c, Q, E⟩ := X
  obtain ⟨hx, hb, hml, hown, hts, hK, hr, hlk, hE, hnm, hrm, hz⟩ := hO
  intro H locs ls hl hP hS
  exact lv_iand hx hb dc (k H locs ls hl hP hS)
theorem R_ior {x y : Int32} (hO : OKX X z d M) (dc : decode M.2.1 pc = .ok (.ior, 1)) (k : R X M (pc + 1) L (.int (x ||| y) :: st) h cs sl) : R X M pc L (.int y :: .int x :: st) h cs sl := by
  obtain ⟨p, l, e, Rm, s, m, args, below, meth, c, Q, E⟩ := X
  obtain ⟨hx, hb, hml, hown, hts, hK, hr, hlk, hE, hnm, hrm, hz⟩ := hO
  intro H locs ls hl hP hS
  exact lv_ior hx hb dc (k H locs ls hl hP hS)
theorem R_ixor {x y : Int32} (hO : OKX X z d M) (dc : decode M.2.1 pc = .ok (.ixor, 1)) (k : R X M (pc + 1) L (.int (x ^^^ y) :: st) h cs sl) : R X M pc L (.int y :: .int x :: st) h cs sl := by
  obtain ⟨p, l, e, Rm, s, m, args, below, meth, c, Q, E⟩ := X
  obtain ⟨hx, hb, hml, hown, hts, hK, hr, hlk, hE, hnm, hrm, hz⟩ := hO
  intro H locs ls hl hP hS
  exact lv_ixor hx hb dc (k H locs ls hl hP hS)
theorem R_ishl {x y : Int32} (hO : OKX X z d M) (dc : decode M.2.1 pc = .ok (.ishl, 1)) (k : R X M (pc + 1) L (.int (x <<< (y &&& 31)) :: st) h cs sl) : R X M pc L (.int y :: .int x :: st) h cs sl := by
  obtain ⟨p, l, e, Rm, s, m, args, below, meth, c, Q, E⟩ := X
  obtain ⟨hx, hb, hml, hown, hts, hK, hr, hlk, hE, hnm, hrm, hz⟩ := hO
  intro H locs ls hl hP hS
  exact lv_ishl hx hb dc (k H locs ls hl hP hS)
theorem R_ishr {x y : Int32} (hO : OKX X z d M) (dc : decode M.2.1 pc = .ok (.ishr, 1)) (k : R X M (pc + 1) L (.int (x >>> (y &&& 31)) :: st) h cs sl) : R X M pc L (.int y :: .int x :: st) h cs sl := by
  obtain ⟨p, l, e, Rm, s, m, args, below, meth, c, Q, E⟩ := X
  obtain ⟨hx, hb, hml, hown, hts, hK, hr, hlk, hE, hnm, hrm, hz⟩ := hO
  intro H locs ls hl hP hS
  exact lv_ishr hx hb dc (k H locs ls hl hP hS)
theorem R_iushr {x y : Int32} (hO : OKX X z d M) (dc : decode M.2.1 pc = .ok (.iushr, 1)) (k : R X M (pc + 1) L (.int ((x.toUInt32 >>> (y.toUInt32 &&& Int32.toUInt32 31)).toInt32) :: st) h cs sl) : R X M pc L (.int y :: .int x :: st) h cs sl := by
  obtain ⟨p, l, e, Rm, s, m, args, below, meth, c, Q, E⟩ := X
  obtain ⟨hx, hb, hml, hown, hts, hK, hr, hlk, hE, hnm, hrm, hz⟩ := hO
  intro H locs ls hl hP hS
  exact lv_iushr hx hb dc rfl (k H locs ls hl hP hS)
theorem R_idiv {x y : Int32} (hO : OKX X z d M) (dc : decode M.2.1 pc = .ok (.idiv, 1)) (hne : ¬ y = 0) (k : R X M (pc + 1) L (.int (x / y) :: st) h cs sl) : R X M pc L (.int y :: .int x :: st) h cs sl := by
  obtain ⟨p, l, e, Rm, s, m, args, below, meth, c, Q, E⟩ := X
  obtain ⟨hx, hb, hml, hown, hts, hK, hr, hlk, hE, hnm, hrm, hz⟩ := hO
  intro H locs ls hl hP hS
  exact lv_idiv hx hb dc hne (k H locs ls hl hP hS)
theorem R_irem {x y : Int32} (hO : OKX X z d M) (dc : decode M.2.1 pc = .ok (.irem, 1)) (hne : ¬ y = 0) (k : R X M (pc + 1) L (.int (x - x / y * y) :: st) h cs sl) : R X M pc L (.int y :: .int x :: st) h cs sl := by
  obtain ⟨p, l, e, Rm, s, m, args, below, meth, c, Q, E⟩ := X
  obtain ⟨hx, hb, hml, hown, hts, hK, hr, hlk, hE, hnm, hrm, hz⟩ := hO
  intro H locs ls hl hP hS
  exact lv_irem hx hb dc hne (k H locs ls hl hP hS)
theorem R_ladd {x y : Int64} (hO : OKX X z d M) (dc : decode M.2.1 pc = .ok (.ladd, 1)) (k : R X M (pc + 1) L (.long (x + y) :: st) h cs sl) : R X M pc L (.long y :: .long x :: st) h cs sl := by
  obtain ⟨p, l, e, Rm, s, m, args, below, meth, c, Q, E⟩ := X
  obtain ⟨hx, hb, hml, hown, hts, hK, hr, hlk, hE, hnm, hrm, hz⟩ := hO
  intro H locs ls hl hP hS
  exact lv_ladd hx hb dc (k H locs ls hl hP hS)
theorem R_lsub {x y : Int64} (hO : OKX X z d M) (dc : decode M.2.1 pc = .ok (.lsub, 1)) (k : R X M (pc + 1) L (.long (x - y) :: st) h cs sl) : R X M pc L (.long y :: .long x :: st) h cs sl := by
  obtain ⟨p, l, e, Rm, s, m, args, below, meth, c, Q, E⟩ := X
  obtain ⟨hx, hb, hml, hown, hts, hK, hr, hlk, hE, hnm, hrm, hz⟩ := hO
  intro H locs ls hl hP hS
  exact lv_lsub hx hb dc (k H locs ls hl hP hS)
theorem R_lmul {x y : Int64} (hO : OKX X z d M) (dc : decode M.2.1 pc = .ok (.lmul, 1)) (k : R X M (pc + 1) L (.long (x * y) :: st) h cs sl) : R X M pc L (.long y :: .long x :: st) h cs sl := by
  obtain ⟨p, l, e, Rm, s, m, args, below, meth, c, Q, E⟩ := X
  obtain ⟨hx, hb, hml, hown, hts, hK, hr, hlk, hE, hnm, hrm, hz⟩ := hO
  intro H locs ls hl hP hS
  exact lv_lmul hx hb dc (k H locs ls hl hP hS)
theorem R_ldiv {x y : Int64} (hO : OKX X z d M) (dc : decode M.2.1 pc = .ok (.ldiv, 1)) (hne : ¬ y = 0) (k : R X M (pc + 1) L (.long (x / y) :: st) h cs sl) : R X M pc L (.long y :: .long x :: st) h cs sl := by
  obtain ⟨p, l, e, Rm, s, m, args, below, meth, c, Q, E⟩ := X
  obtain ⟨hx, hb, hml, hown, hts, hK, hr, hlk, hE, hnm, hrm, hz⟩ := hO
  intro H locs ls hl hP hS
  exact lv_ldiv hx hb dc hne (k H locs ls hl hP hS)
theorem R_lrem {x y : Int64} (hO : OKX X z d M) (dc : decode M.2.1 pc = .ok (.lrem, 1)) (hne : ¬ y = 0) (k : R X M (pc + 1) L (.long (x - x / y * y) :: st) h cs sl) : R X M pc L (.long y :: .long x :: st) h cs sl := by
  obtain ⟨p, l, e, Rm, s, m, args, below, meth, c, Q, E⟩ := X
  obtain ⟨hx, hb, hml, hown, hts, hK, hr, hlk, hE, hnm, hrm, hz⟩ := hO
  intro H locs ls hl hP hS
  exact lv_lrem hx hb dc hne (k H locs ls hl hP hS)
theorem R_lcmp {x y : Int64} (hO : OKX X z d M) (dc : decode M.2.1 pc = .ok (.lcmp, 1)) (k : R X M (pc + 1) L (.int (lg_cmp x y) :: st) h cs sl) : R X M pc L (.long y :: .long x :: st) h cs sl := by
  obtain ⟨p, l, e, Rm, s, m, args, below, meth, c, Q, E⟩ := X
  obtain ⟨hx, hb, hml, hown, hts, hK, hr, hlk, hE, hnm, hrm, hz⟩ := hO
  intro H locs ls hl hP hS
  exact W.lcmp hx hb dc (k H locs ls hl hP hS)
theorem R_ineg {x : Int32} (hO : OKX X z d M) (dc : decode M.2.1 pc = .ok (.ineg, 1)) (k : R X M (pc + 1) L (.int (-x) :: st) h cs sl) : R X M pc L (.int x :: st) h cs sl := by
  obtain ⟨p, l, e, Rm, s, m, args, below, meth, c, Q, E⟩ := X
  obtain ⟨hx, hb, hml, hown, hts, hK, hr, hlk, hE, hnm, hrm, hz⟩ := hO
  intro H locs ls hl hP hS
  exact lv_ineg hx hb dc (k H locs ls hl hP hS)
theorem R_i2l {x : Int32} (hO : OKX X z d M) (dc : decode M.2.1 pc = .ok (.i2l, 1)) (k : R X M (pc + 1) L (.long (x.toInt64) :: st) h cs sl) : R X M pc L (.int x :: st) h cs sl := by
  obtain ⟨p, l, e, Rm, s, m, args, below, meth, c, Q, E⟩ := X
  obtain ⟨hx, hb, hml, hown, hts, hK, hr, hlk, hE, hnm, hrm, hz⟩ := hO
  intro H locs ls hl hP hS
  exact lv_i2l hx hb dc rfl (k H locs ls hl hP hS)
theorem R_l2i {x : Int64} (hO : OKX X z d M) (dc : decode M.2.1 pc = .ok (.l2i, 1)) (k : R X M (pc + 1) L (.int (x.toInt32) :: st) h cs sl) : R X M pc L (.long x :: st) h cs sl := by
  obtain ⟨p, l, e, Rm, s, m, args, below, meth, c, Q, E⟩ := X
  obtain ⟨hx, hb, hml, hown, hts, hK, hr, hlk, hE, hnm, hrm, hz⟩ := hO
  intro H locs ls hl hP hS
  exact lv_l2i hx hb dc rfl (k H locs ls hl hP hS)
theorem R_i2b {x : Int32} (hO : OKX X z d M) (dc : decode M.2.1 pc = .ok (.i2b, 1)) (k : R X M (pc + 1) L (.int (x.toInt8.toInt32) :: st) h cs sl) : R X M pc L (.int x :: st) h cs sl := by
  obtain ⟨p, l, e, Rm, s, m, args, below, meth, c, Q, E⟩ := X
  obtain ⟨hx, hb, hml, hown, hts, hK, hr, hlk, hE, hnm, hrm, hz⟩ := hO
  intro H locs ls hl hP hS
  exact lv_i2b hx hb dc rfl (k H locs ls hl hP hS)
theorem R_i2s {x : Int32} (hO : OKX X z d M) (dc : decode M.2.1 pc = .ok (.i2s, 1)) (k : R X M (pc + 1) L (.int (x.toInt16.toInt32) :: st) h cs sl) : R X M pc L (.int x :: st) h cs sl := by
  obtain ⟨p, l, e, Rm, s, m, args, below, meth, c, Q, E⟩ := X
  obtain ⟨hx, hb, hml, hown, hts, hK, hr, hlk, hE, hnm, hrm, hz⟩ := hO
  intro H locs ls hl hP hS
  exact lv_i2s hx hb dc rfl (k H locs ls hl hP hS)
theorem R_i2c {x : Int32} (hO : OKX X z d M) (dc : decode M.2.1 pc = .ok (.i2c, 1)) (k : R X M (pc + 1) L (.int ((x.toUInt32 % 65536).toInt32) :: st) h cs sl) : R X M pc L (.int x :: st) h cs sl := by
  obtain ⟨p, l, e, Rm, s, m, args, below, meth, c, Q, E⟩ := X
  obtain ⟨hx, hb, hml, hown, hts, hK, hr, hlk, hE, hnm, hrm, hz⟩ := hO
  intro H locs ls hl hP hS
  exact lv_i2c hx hb dc rfl (k H locs ls hl hP hS)
theorem R_dup {v : Value} (hO : OKX X z d M) (dc : decode M.2.1 pc = .ok (.dup, 1)) (hv : v.category = 1) (k : R X M (pc + 1) L (v :: v :: st) h cs sl) : R X M pc L (v :: st) h cs sl := by
  obtain ⟨p, l, e, Rm, s, m, args, below, meth, c, Q, E⟩ := X
  obtain ⟨hx, hb, hml, hown, hts, hK, hr, hlk, hE, hnm, hrm, hz⟩ := hO
  intro H locs ls hl hP hS
  exact lv_dup hx hb dc (by rw [tr_cat]; exact hv) (k H locs ls hl hP hS)
theorem R_pop {v : Value} (hO : OKX X z d M) (dc : decode M.2.1 pc = .ok (.pop, 1)) (hv : v.category = 1) (k : R X M (pc + 1) L (st) h cs sl) : R X M pc L (v :: st) h cs sl := by
  obtain ⟨p, l, e, Rm, s, m, args, below, meth, c, Q, E⟩ := X
  obtain ⟨hx, hb, hml, hown, hts, hK, hr, hlk, hE, hnm, hrm, hz⟩ := hO
  intro H locs ls hl hP hS
  exact lv_pop hx hb dc (by rw [tr_cat]; exact hv) (k H locs ls hl hP hS)
theorem R_dup2 {v u : Value} (hO : OKX X z d M) (dc : decode M.2.1 pc = .ok (.dup2, 1)) (hv : v.category = 1) (hu : u.category = 1) (k : R X M (pc + 1) L (v :: u :: v :: u :: st) h cs sl) : R X M pc L (v :: u :: st) h cs sl := by
  obtain ⟨p, l, e, Rm, s, m, args, below, meth, c, Q, E⟩ := X
  obtain ⟨hx, hb, hml, hown, hts, hK, hr, hlk, hE, hnm, hrm, hz⟩ := hO
  intro H locs ls hl hP hS
  exact lv_dup2_11 hx hb dc (by rw [tr_cat]; exact hv) (by rw [tr_cat]; exact hu) (k H locs ls hl hP hS)
theorem R_goto {off : Int} {tgt : Nat} (hO : OKX X z d M) (dc : decode M.2.1 pc = .ok (.goto off, 3)) (ht : (pc : Int) + off = (tgt : Int)) (k : R X M tgt L (st) h cs sl) : R X M pc L (st) h cs sl := by
  obtain ⟨p, l, e, Rm, s, m, args, below, meth, c, Q, E⟩ := X
  obtain ⟨hx, hb, hml, hown, hts, hK, hr, hlk, hE, hnm, hrm, hz⟩ := hO
  intro H locs ls hl hP hS
  exact lv_goto hx hb dc ht (k H locs ls hl hP hS)
theorem R_icmp_eq {x y : Int32} {off : Int} {tgt : Nat} (hO : OKX X z d M) (dc : decode M.2.1 pc = .ok (.if_icmp .eq off, 3)) (ht : (pc : Int) + off = (tgt : Int)) (kt : x = y → R X M tgt L st h cs sl) (kf : ¬ x = y → R X M (pc + 3) L st h cs sl) : R X M pc L (.int y :: .int x :: st) h cs sl := by
  obtain ⟨p, l, e, Rm, s, m, args, below, meth, c, Q, E⟩ := X
  obtain ⟨hx, hb, hml, hown, hts, hK, hr, hlk, hE, hnm, hrm, hz⟩ := hO
  intro H locs ls hl hP hS
  exact lv_icmp_eq hx hb dc ht (fun q => kt q H locs ls hl hP hS) (fun q => kf q H locs ls hl hP hS)
theorem R_icmp_ne {x y : Int32} {off : Int} {tgt : Nat} (hO : OKX X z d M) (dc : decode M.2.1 pc = .ok (.if_icmp .ne off, 3)) (ht : (pc : Int) + off = (tgt : Int)) (kt : ¬ x = y → R X M tgt L st h cs sl) (kf : x = y → R X M (pc + 3) L st h cs sl) : R X M pc L (.int y :: .int x :: st) h cs sl := by
  obtain ⟨p, l, e, Rm, s, m, args, below, meth, c, Q, E⟩ := X
  obtain ⟨hx, hb, hml, hown, hts, hK, hr, hlk, hE, hnm, hrm, hz⟩ := hO
  intro H locs ls hl hP hS
  exact lv_icmp_ne hx hb dc ht (fun q => kt q H locs ls hl hP hS) (fun q => kf q H locs ls hl hP hS)
theorem R_icmp_lt {x y : Int32} {off : Int} {tgt : Nat} (hO : OKX X z d M) (dc : decode M.2.1 pc = .ok (.if_icmp .lt off, 3)) (ht : (pc : Int) + off = (tgt : Int)) (kt : x < y → R X M tgt L st h cs sl) (kf : ¬ x < y → R X M (pc + 3) L st h cs sl) : R X M pc L (.int y :: .int x :: st) h cs sl := by
  obtain ⟨p, l, e, Rm, s, m, args, below, meth, c, Q, E⟩ := X
  obtain ⟨hx, hb, hml, hown, hts, hK, hr, hlk, hE, hnm, hrm, hz⟩ := hO
  intro H locs ls hl hP hS
  exact lv_icmp_lt hx hb dc ht (fun q => kt q H locs ls hl hP hS) (fun q => kf q H locs ls hl hP hS)
theorem R_icmp_ge {x y : Int32} {off : Int} {tgt : Nat} (hO : OKX X z d M) (dc : decode M.2.1 pc = .ok (.if_icmp .ge off, 3)) (ht : (pc : Int) + off = (tgt : Int)) (kt : y ≤ x → R X M tgt L st h cs sl) (kf : ¬ y ≤ x → R X M (pc + 3) L st h cs sl) : R X M pc L (.int y :: .int x :: st) h cs sl := by
  obtain ⟨p, l, e, Rm, s, m, args, below, meth, c, Q, E⟩ := X
  obtain ⟨hx, hb, hml, hown, hts, hK, hr, hlk, hE, hnm, hrm, hz⟩ := hO
  intro H locs ls hl hP hS
  exact lv_icmp_ge hx hb dc ht (fun q => kt q H locs ls hl hP hS) (fun q => kf q H locs ls hl hP hS)
theorem R_icmp_gt {x y : Int32} {off : Int} {tgt : Nat} (hO : OKX X z d M) (dc : decode M.2.1 pc = .ok (.if_icmp .gt off, 3)) (ht : (pc : Int) + off = (tgt : Int)) (kt : y < x → R X M tgt L st h cs sl) (kf : ¬ y < x → R X M (pc + 3) L st h cs sl) : R X M pc L (.int y :: .int x :: st) h cs sl := by
  obtain ⟨p, l, e, Rm, s, m, args, below, meth, c, Q, E⟩ := X
  obtain ⟨hx, hb, hml, hown, hts, hK, hr, hlk, hE, hnm, hrm, hz⟩ := hO
  intro H locs ls hl hP hS
  exact lv_icmp_gt hx hb dc ht (fun q => kt q H locs ls hl hP hS) (fun q => kf q H locs ls hl hP hS)
theorem R_icmp_le {x y : Int32} {off : Int} {tgt : Nat} (hO : OKX X z d M) (dc : decode M.2.1 pc = .ok (.if_icmp .le off, 3)) (ht : (pc : Int) + off = (tgt : Int)) (kt : x ≤ y → R X M tgt L st h cs sl) (kf : ¬ x ≤ y → R X M (pc + 3) L st h cs sl) : R X M pc L (.int y :: .int x :: st) h cs sl := by
  obtain ⟨p, l, e, Rm, s, m, args, below, meth, c, Q, E⟩ := X
  obtain ⟨hx, hb, hml, hown, hts, hK, hr, hlk, hE, hnm, hrm, hz⟩ := hO
  intro H locs ls hl hP hS
  exact lv_icmp_le hx hb dc ht (fun q => kt q H locs ls hl hP hS) (fun q => kf q H locs ls hl hP hS)
theorem R_if_eq {x : Int32} {off : Int} {tgt : Nat} (hO : OKX X z d M) (dc : decode M.2.1 pc = .ok (.ifCond .eq off, 3)) (ht : (pc : Int) + off = (tgt : Int)) (kt : x = 0 → R X M tgt L st h cs sl) (kf : ¬ x = 0 → R X M (pc + 3) L st h cs sl) : R X M pc L (.int x :: st) h cs sl := by
  obtain ⟨p, l, e, Rm, s, m, args, below, meth, c, Q, E⟩ := X
  obtain ⟨hx, hb, hml, hown, hts, hK, hr, hlk, hE, hnm, hrm, hz⟩ := hO
  intro H locs ls hl hP hS
  exact lv_if_eq hx hb dc ht (fun q => kt q H locs ls hl hP hS) (fun q => kf q H locs ls hl hP hS)
theorem R_if_ne {x : Int32} {off : Int} {tgt : Nat} (hO : OKX X z d M) (dc : decode M.2.1 pc = .ok (.ifCond .ne off, 3)) (ht : (pc : Int) + off = (tgt : Int)) (kt : ¬ x = 0 → R X M tgt L st h cs sl) (kf : x = 0 → R X M (pc + 3) L st h cs sl) : R X M pc L (.int x :: st) h cs sl := by
  obtain ⟨p, l, e, Rm, s, m, args, below, meth, c, Q, E⟩ := X
  obtain ⟨hx, hb, hml, hown, hts, hK, hr, hlk, hE, hnm, hrm, hz⟩ := hO
  intro H locs ls hl hP hS
  exact lv_if_ne hx hb dc ht (fun q => kt q H locs ls hl hP hS) (fun q => kf q H locs ls hl hP hS)
theorem R_if_lt {x : Int32} {off : Int} {tgt : Nat} (hO : OKX X z d M) (dc : decode M.2.1 pc = .ok (.ifCond .lt off, 3)) (ht : (pc : Int) + off = (tgt : Int)) (kt : x < 0 → R X M tgt L st h cs sl) (kf : ¬ x < 0 → R X M (pc + 3) L st h cs sl) : R X M pc L (.int x :: st) h cs sl := by
  obtain ⟨p, l, e, Rm, s, m, args, below, meth, c, Q, E⟩ := X
  obtain ⟨hx, hb, hml, hown, hts, hK, hr, hlk, hE, hnm, hrm, hz⟩ := hO
  intro H locs ls hl hP hS
  exact lv_if_lt hx hb dc ht (fun q => kt q H locs ls hl hP hS) (fun q => kf q H locs ls hl hP hS)
theorem R_if_ge {x : Int32} {off : Int} {tgt : Nat} (hO : OKX X z d M) (dc : decode M.2.1 pc = .ok (.ifCond .ge off, 3)) (ht : (pc : Int) + off = (tgt : Int)) (kt : 0 ≤ x → R X M tgt L st h cs sl) (kf : ¬ 0 ≤ x → R X M (pc + 3) L st h cs sl) : R X M pc L (.int x :: st) h cs sl := by
  obtain ⟨p, l, e, Rm, s, m, args, below, meth, c, Q, E⟩ := X
  obtain ⟨hx, hb, hml, hown, hts, hK, hr, hlk, hE, hnm, hrm, hz⟩ := hO
  intro H locs ls hl hP hS
  exact lv_if_ge hx hb dc ht (fun q => kt q H locs ls hl hP hS) (fun q => kf q H locs ls hl hP hS)
theorem R_if_gt {x : Int32} {off : Int} {tgt : Nat} (hO : OKX X z d M) (dc : decode M.2.1 pc = .ok (.ifCond .gt off, 3)) (ht : (pc : Int) + off = (tgt : Int)) (kt : 0 < x → R X M tgt L st h cs sl) (kf : ¬ 0 < x → R X M (pc + 3) L st h cs sl) : R X M pc L (.int x :: st) h cs sl := by
  obtain ⟨p, l, e, Rm, s, m, args, below, meth, c, Q, E⟩ := X
  obtain ⟨hx, hb, hml, hown, hts, hK, hr, hlk, hE, hnm, hrm, hz⟩ := hO
  intro H locs ls hl hP hS
  exact lv_if_gt hx hb dc ht (fun q => kt q H locs ls hl hP hS) (fun q => kf q H locs ls hl hP hS)
theorem R_if_le {x : Int32} {off : Int} {tgt : Nat} (hO : OKX X z d M) (dc : decode M.2.1 pc = .ok (.ifCond .le off, 3)) (ht : (pc : Int) + off = (tgt : Int)) (kt : x ≤ 0 → R X M tgt L st h cs sl) (kf : ¬ x ≤ 0 → R X M (pc + 3) L st h cs sl) : R X M pc L (.int x :: st) h cs sl := by
  obtain ⟨p, l, e, Rm, s, m, args, below, meth, c, Q, E⟩ := X
  obtain ⟨hx, hb, hml, hown, hts, hK, hr, hlk, hE, hnm, hrm, hz⟩ := hO
  intro H locs ls hl hP hS
  exact lv_if_le hx hb dc ht (fun q => kt q H locs ls hl hP hS) (fun q => kf q H locs ls hl hP hS)
theorem R_tsw {dflt lo hi : Int} {offs : Array Int} {len : Nat} {x : Int32} (hO : OKX X z d M) (dc : decode M.2.1 pc = .ok (.tableswitch dflt lo hi offs, len))
    (kt : ∀ (j : Nat) (off : Int), offs[j]? = some off → x.toInt = lo + j → ¬ hi < x.toInt → ∃ tgt : Nat, (pc : Int) + off = (tgt : Int) ∧ R X M tgt L st h cs sl) (hn : ∀ j : Nat, lo + j ≤ hi → ∃ off, offs[j]? = some off) {tgd : Nat} (hd : (pc : Int) + dflt = (tgd : Int)) (kf : (x.toInt < lo ∨ hi < x.toInt) → R X M tgd L st h cs sl) : R X M pc L (.int x :: st) h cs sl := by
  obtain ⟨p, l, e, Rm, s, m, args, below, meth, c, Q, E⟩ := X
  obtain ⟨hx, hb, hml, hown, hts, hK, hr, hlk, hE, hnm, hrm, hz⟩ := hO
  intro H locs ls hl hP hS
  by_cases c1 : x.toInt < lo
  · exact lv_tableOut hx hb dc (Or.inl c1) hd (kf (Or.inl c1) H locs ls hl hP hS)
  · by_cases c2 : hi < x.toInt
    · exact lv_tableOut hx hb dc (Or.inr c2) hd (kf (Or.inr c2) H locs ls hl hP hS)
    · obtain ⟨off, ho⟩ := hn (x.toInt - lo).toNat (by omega)
      obtain ⟨tgt, ht, k⟩ := kt _ off ho (by omega) c2
      exact lv_tableIn hx hb dc c1 c2 ho ht (k H locs ls hl hP hS)
theorem R_iret {x : Int32} {Qp : Option Value → AH → Prop} (hO : OKX X z d M) (hQ : OKQ X cs sl Qp) (dc : decode M.2.1 pc = .ok (.ireturn, 1)) (ht : M.2.2.2 = some .int) (hq : Qp (some (.int x)) h) : R X M pc L [.int x] h cs sl := by
  obtain ⟨p, l, e, Rm, s, m, args, below, meth, c, Q, E⟩ := X
  obtain ⟨hx, hb, hml, hown, hts, hK, hr, hlk, hE, hnm, hrm, hz⟩ := hO
  intro H locs ls hl hP hS
  obtain ⟨hQ, -, -⟩ := hQ
  subst hQ
  exact W.iret hx hb (hr.trans ht) (fun t ht hW => ⟨some (.int x), h, rfl, hq, by rw [ht]; exact hP, hS.F ht⟩) hS.2.2 dc hlk
theorem R_zret {x : Int32} {Qp : Option Value → AH → Prop} (hO : OKX X z d M) (hQ : OKQ X cs sl Qp) (dc : decode M.2.1 pc = .ok (.ireturn, 1)) (ht : M.2.2.2 = some .boolean) (hv : x = 0 ∨ x = 1) (hq : Qp (some (.int x)) h) : R X M pc L [.int x] h cs sl := by
  obtain ⟨p, l, e, Rm, s, m, args, below, meth, c, Q, E⟩ := X
  obtain ⟨hx, hb, hml, hown, hts, hK, hr, hlk, hE, hnm, hrm, hz⟩ := hO
  intro H locs ls hl hP hS
  obtain ⟨hQ, -, -⟩ := hQ
  subst hQ
  exact W.zret hx hb (hr.trans ht) (by rcases hv with rfl | rfl <;> rfl) (fun t ht hW => ⟨some (.int x), h, rfl, hq, by rw [ht]; exact hP, hS.F ht⟩) hS.2.2 dc hlk
theorem R_lret {x : Int64} {Qp : Option Value → AH → Prop} (hO : OKX X z d M) (hQ : OKQ X cs sl Qp) (dc : decode M.2.1 pc = .ok (.lreturn, 1)) (ht : M.2.2.2 = some .long) (hq : Qp (some (.long x)) h) : R X M pc L [.long x] h cs sl := by
  obtain ⟨p, l, e, Rm, s, m, args, below, meth, c, Q, E⟩ := X
  obtain ⟨hx, hb, hml, hown, hts, hK, hr, hlk, hE, hnm, hrm, hz⟩ := hO
  intro H locs ls hl hP hS
  obtain ⟨hQ, -, -⟩ := hQ
  subst hQ
  exact W.lret hx hb (hr.trans ht) (fun t ht hW => ⟨some (.long x), h, rfl, hq, by rw [ht]; exact hP, hS.F ht⟩) hS.2.2 dc hlk
theorem R_vret {Qp : Option Value → AH → Prop} (hO : OKX X z d M) (hQ : OKQ X cs sl Qp) (dc : decode M.2.1 pc = .ok (.return_, 1)) (ht : M.2.2.2 = none) (hq : Qp none h) : R X M pc L [] h cs sl := by
  obtain ⟨p, l, e, Rm, s, m, args, below, meth, c, Q, E⟩ := X
  obtain ⟨hx, hb, hml, hown, hts, hK, hr, hlk, hE, hnm, hrm, hz⟩ := hO
  intro H locs ls hl hP hS
  obtain ⟨hQ, -, -⟩ := hQ
  subst hQ
  exact W.vret hx hb (hr.trans ht) (fun t ht hW => ⟨none, h, rfl, hq, by rw [ht]; exact hP, hS.F ht⟩) hS.2.2 dc hlk
theorem R_aret {a : Nat} {nm : String} {Qp : Option Value → AH → Prop} (hO : OKX X z d M) (hQ : OKQ X cs sl Qp) (dc : decode M.2.1 pc = .ok (.areturn, 1)) (ht : M.2.2.2 = some (.object nm)) (hq : Qp (some (.ref a)) h) : R X M pc L [.ref a] h cs sl := by
  obtain ⟨p, l, e, Rm, s, m, args, below, meth, c, Q, E⟩ := X
  obtain ⟨hx, hb, hml, hown, hts, hK, hr, hlk, hE, hnm, hrm, hz⟩ := hO
  intro H locs ls hl hP hS
  obtain ⟨hQ, -, -⟩ := hQ
  subst hQ
  exact W.aret hx hb (hr.trans ht) (Or.inl ⟨nm, rfl⟩) (Or.inr ⟨_, rfl⟩) (fun t ht hW => ⟨some (.ref a), h, rfl, hq, by rw [ht]; exact hP, hS.F ht⟩) hS.2.2 dc hlk
theorem R_objInit {idx a : Nat} (hO : OKX X z d M) (dc : decode M.2.1 pc = .ok (.invokespecial idx, 3)) (hd : 0 < d) (hlink : Cond.methodLink M.1.cls idx objectInit ∈ TS) (hs : (st.map fun v => v.category).sum ≤ 8) (k : R X M (pc + 3) L st h cs sl) : R X M pc L (.ref a :: st) h cs sl := by
  obtain ⟨p, l, e, Rm, s, m, args, below, meth, c, Q, E⟩ := X
  obtain ⟨hx, hb, hml, hown, hts, hK, hr, hlk, hE, hnm, hrm, hz⟩ := hO
  intro H locs ls hl hP hS
  have e : ((st.map (tr E)).map fun v => v.category).sum = (st.map fun v => v.category).sum := by
    rw [List.map_map]; congr 1; apply List.map_congr_left; intro v _; exact tr_cat _ v
  refine W.objInit hx hb hown (hts _ hlink) (hts _ (TSi 89 (by decide +kernel) (by decide +kernel))) (hts _ (TSi 90 (by decide +kernel) (by decide +kernel))) rfl (by rw [hml]; exact hl.1) rfl dc (by omega) (by show 2 * 0 + _ + 12 ≤ _; rw [e]; omega) ?_
  exact k H locs ls hl hP hS
theorem R_mmax {idx : Nat} {x y : Int32} (hO : OKX X z d M) (dc : decode M.2.1 pc = .ok (.invokestatic idx, 3)) (hd : 0 < d) (hlink : Cond.methodLink M.1.cls idx Lib.Math.max.name ∈ TS) (hw : Cond.static Lib.Math.max.name ∈ TS ∧ Cond.initialized "java/lang/Math" ∈ TS ∧ Cond.code Lib.Math.max.name Lib.Math.max.code 2 (some .int) ∈ TS) (hs : (st.map fun v => v.category).sum ≤ 8) (hcc : cs ≤ X.2.2.2.1.cells ∧ sl ≤ X.2.2.2.1.slots) (k : R X M (pc + 3) L (.int (if x < y then y else x) :: st) h cs sl) : R X M pc L (.int y :: .int x :: st) h cs sl := by
  obtain ⟨p, l, e, Rm, s, m, args, below, meth, c, Q, E⟩ := X
  obtain ⟨hx, hb, hml, hown, hts, hK, hr, hlk, hE, hnm, hrm, hz⟩ := hO
  intro H locs ls hl hP hS
  have e : ((st.map (tr E)).map fun v => v.category).sum = (st.map fun v => v.category).sum := by
    rw [List.map_map]; congr 1; apply List.map_congr_left; intro v _; exact tr_cat _ v
  exact va_mmax hx hb (by rw [hml]; exact hl.1.symm) hown (hts _ hlink) (hts _ hw.1) (hts _ hw.2.1) (hts _ hw.2.2) (by omega) (by rw [e]; omega) (show cs ≤ Rm.cells from hcc.1) (show sl ≤ Rm.slots from hcc.2) dc (k H locs ls hl hP hS)
theorem R_mmin {idx : Nat} {x y : Int32} (hO : OKX X z d M) (dc : decode M.2.1 pc = .ok (.invokestatic idx, 3)) (hd : 0 < d) (hlink : Cond.methodLink M.1.cls idx Lib.Math.min.name ∈ TS) (hw : Cond.static Lib.Math.min.name ∈ TS ∧ Cond.initialized "java/lang/Math" ∈ TS ∧ Cond.code Lib.Math.min.name Lib.Math.min.code 2 (some .int) ∈ TS) (hs : (st.map fun v => v.category).sum ≤ 8) (hcc : cs ≤ X.2.2.2.1.cells ∧ sl ≤ X.2.2.2.1.slots) (k : R X M (pc + 3) L (.int (if y < x then y else x) :: st) h cs sl) : R X M pc L (.int y :: .int x :: st) h cs sl := by
  obtain ⟨p, l, e, Rm, s, m, args, below, meth, c, Q, E⟩ := X
  obtain ⟨hx, hb, hml, hown, hts, hK, hr, hlk, hE, hnm, hrm, hz⟩ := hO
  intro H locs ls hl hP hS
  have e : ((st.map (tr E)).map fun v => v.category).sum = (st.map fun v => v.category).sum := by
    rw [List.map_map]; congr 1; apply List.map_congr_left; intro v _; exact tr_cat _ v
  exact va_mmin hx hb (by rw [hml]; exact hl.1.symm) hown (hts _ hlink) (hts _ hw.1) (hts _ hw.2.1) (hts _ hw.2.2) (by omega) (by rw [e]; omega) (show cs ≤ Rm.cells from hcc.1) (show sl ≤ Rm.slots from hcc.2) dc (k H locs ls hl hP hS)
theorem R_mmaxL {idx : Nat} {x y : Int64} (hO : OKX X z d M) (dc : decode M.2.1 pc = .ok (.invokestatic idx, 3)) (hd : 0 < d) (hlink : Cond.methodLink M.1.cls idx Lib.MathLoose.max_long.x ∈ TS) (hw : Cond.static Lib.MathLoose.max_long.x ∈ TS ∧ Cond.initialized "java/lang/Math" ∈ TS ∧ Cond.code Lib.MathLoose.max_long.x Lib.MathLoose.max_long.code 4 (some .long) ∈ TS) (hs : (st.map fun v => v.category).sum ≤ 8) (hcc : cs ≤ X.2.2.2.1.cells ∧ sl ≤ X.2.2.2.1.slots) (k : R X M (pc + 3) L (.long (if y < x then x else y) :: st) h cs sl) : R X M pc L (.long y :: .long x :: st) h cs sl := by
  obtain ⟨p, l, e, Rm, s, m, args, below, meth, c, Q, E⟩ := X
  obtain ⟨hx, hb, hml, hown, hts, hK, hr, hlk, hE, hnm, hrm, hz⟩ := hO
  intro H locs ls hl hP hS
  have e : ((st.map (tr E)).map fun v => v.category).sum = (st.map fun v => v.category).sum := by
    rw [List.map_map]; congr 1; apply List.map_congr_left; intro v _; exact tr_cat _ v
  exact va_mmax_long hx hb (by rw [hml]; exact hl.1.symm) hown (hts _ hlink) (hts _ hw.1) (hts _ hw.2.1) (hts _ hw.2.2) (by omega) (by rw [e]; omega) (show cs ≤ Rm.cells from hcc.1) (show sl ≤ Rm.slots from hcc.2) dc (k H locs ls hl hP hS)
theorem R_sub {L2 : AL} (ks : List Nat) (hl2 : ks.filterMap (fun k => L[k]?) = L2) (k : R X M pc L2 st h cs sl) : R X M pc L st h cs sl := by
  obtain ⟨p, l, e, Rm, s, m, args, below, meth, c, Q, E⟩ := X
  intro H locs ls hl hP hS
  refine k H locs ls ⟨hl.1, hl.2.1, fun q hq => hl.2.2 q ?_⟩ hP hS
  obtain ⟨q0, hq0, rfl⟩ := List.mem_map.mp hq
  rw [← hl2] at hq0
  obtain ⟨i, -, hi⟩ := List.mem_filterMap.mp hq0
  exact List.mem_map.mpr ⟨q0, List.mem_of_getElem? hi, rfl⟩
end RULES
end
section
/-! HEAP AND CALLS: the rules of R for fields, arrays, calls -/
def FL (own : String) (idx ci k : Nat) (ty : FieldType) (fin : Bool) : Prop := ∃ (C : String) (T : u_T) (N : Nat) (ty0 : Nat → FieldType), cls0[ci]? = some (C, T, N) ∧ k < N ∧ (∀ w ∈ u_ws C T N, w ∈ TS) ∧ (∀ j, j < N → parseFieldDescriptor (T j).2.2.1 = some (ty0 j)) ∧ (∀ a, a < N → ∀ b, b < N → a ≠ b → (T a).2.1 ≠ (T b).2.1) ∧ Cond.fieldLink own idx (T k).1 (T k).2.1 (T k).2.2.1 ∈ TS ∧ ty0 k = ty ∧ (T k).2.2.2 = fin ∧ ci < 20 ∧ (T k).1 = C
theorem tr_catsum (b : EE) (st : List Value) : ((st.map (tr b)).map fun v => v.category).sum = (st.map fun v => v.category).sum := by
  rw [List.map_map]; congr 1; apply List.map_congr_left; intro v _; exact tr_cat _ v
theorem cE_obj {E : EE} {ci : Nat} {fs : List Value} (h : ci < 20) : cE E (ci, fs) = .inr (ci, fs.map (tr E)) := if_pos h
theorem cE_int {E : EE} {fs : List Value} : cE E (20, fs) = .inl (E.2.2.2.1.1, fs.length, .inl (fun j => iv (fs.getD j .null))) := rfl
theorem cE_bool {E : EE} {fs : List Value} : cE E (21, fs) = .inl (E.2.2.2.1.2.1, fs.length, .inl (fun j => iv (fs.getD j .null))) := rfl
theorem cE_st {E : EE} {fs : List Value} : cE E (22, fs) = .inl (E.2.2.2.1.2.2.1, fs.length, .inr (.inr (.inr (.inr (fun j => rv E (fs.getD j .null)))))) := rfl
theorem cE_row {E : EE} {fs : List Value} : cE E (23, fs) = .inl (E.2.2.2.1.2.2.2, fs.length, .inr (.inr (.inr (.inr (fun j => rv E (fs.getD j .null)))))) := rfl
theorem goodIn_c {big ws : List Cond} {w : Cond} (h1 : w ∈ big ∧ ((w.onTables && w.keeps) = true ∨ ∃ ty, w = .arrayClass ty)) (h2 : GoodIn big ws) : GoodIn big (w :: ws) := fun v hv => (List.mem_cons.mp hv).elim (fun e => e ▸ h1) (h2 v)
theorem RepH.ns {E : EE} {h : AH} {H : Heap} (hz : E.1 = false) (h1 : h.length ≤ 1000) (h2 : va_P E.2.2.1 cls0 (conc E h) H) : RepH E h H := ⟨fun q => absurd (hz.symm.trans q) (by decide), h1, h2⟩
section HEAP
variable {X : CX} {z : Bool} {d : Nat} {M : MD} {pc : Nat} {L : AL} {st : List Value} {h : AH} {cs sl : Nat}
theorem R_getf {idx ci k a : Nat} {ty : FieldType} {fin : Bool} {fs : List Value} {v : Value} (hO : OKX X z d M) (dc : decode M.2.1 pc = .ok (.getfield idx, 3)) (fl : FL M.1.cls idx ci k ty fin) (ha : h[a]? = some (ci, fs)) (hv : fs[k]? = some v) (kk : R X M (pc + 3) L (v :: st) h cs sl) : R X M pc L (.ref a :: st) h cs sl := by
  obtain ⟨p, l, e, Rm, s, m, args, below, meth, c, Q, E⟩ := X
  obtain ⟨hx, hb, hml, hown, hts, hK, hr, hlk, hE, hnm, hrm, hz⟩ := hO
  obtain ⟨C, T, N, ty0, f1, f2, f3, f4, f5, f6, f7, f8, f9, -⟩ := fl
  intro H locs ls hl hP hS
  show W _ _ _ _ _ _ _ _ _ _ _ _ _ _ _ (F0 m pc ls (.ref (pa E a) :: st.map (tr E)))
  rw [pa_at hP.2.1 ha]
  have hq := conc_at (E := E) ha
  rw [cE_obj f9] at hq
  exact va_get hx hb hts f3 hown hK.1 hP.2.2 a hq f1 k f2 (hts _ f6) (fun _ h9 => h9) (v := tr E v) (by rw [List.getElem?_map, hv]; rfl) dc (kk H locs ls hl hP hS)
theorem R_putf {idx ci k a : Nat} {ty : FieldType} {fs : List Value} {v : Value} (hO : OKX X false d M) (dc : decode M.2.1 pc = .ok (.putfield idx, 3)) (fl : FL M.1.cls idx ci k ty false) (ha : h[a]? = some (ci, fs)) (hlen : k < fs.length) (hn : narrow ty v = v) (hf : fits ty v = true) (hv : ∀ b, tr b v = v) (kk : R X M (pc + 3) L st (h.set a (ci, fs.set k v)) cs sl) : R X M pc L (v :: .ref a :: st) h cs sl := by
  obtain ⟨p, l, e, Rm, s, m, args, below, meth, c, Q, E⟩ := X
  obtain ⟨hx, hb, hml, hown, hts, hK, hr, hlk, hE, hnm, hrm, hz⟩ := hO
  obtain ⟨C, T, N, ty0, f1, f2, f3, f4, f5, f6, f7, f8, f9, -⟩ := fl
  intro H locs ls hl hP hS
  show W _ _ _ _ _ _ _ _ _ _ _ _ _ _ _ (F0 m pc ls (tr E v :: .ref (pa E a) :: st.map (tr E)))
  rw [pa_at hP.2.1 ha, hv]
  have hq := conc_at (E := E) ha
  rw [cE_obj f9] at hq
  refine va_put hx hb hts f3 ty0 f4 f5 hown hK.1 hP.2.2 (conc_D h) hS a hq f1 k f2 (hts _ f6) (fun _ h9 => h9) f8 (by rw [f4 k f2, f7]) hn hf (by rw [List.length_map]; exact hlen) dc (fun H1 locs1 hP1 hD1 hS1 => ?_)
  refine kk H1 locs1 ls hl (RepH.ns hz (by rw [List.length_set]; exact hP.2.1) ?_) hS1
  have e : (fs.map (tr E)).set k v = (fs.set k v).map (tr E) := by rw [List.map_set, hv]
  rw [e, ← cE_obj (E := E) f9, conc_set] at hP1
  exact hP1
theorem R_iald {a : Nat} {i : Int32} {fs : List Value} {x : Int32} (hO : OKX X z d M) (dc : decode M.2.1 pc = .ok (.iaload, 1)) (ha : h[a]? = some (20, fs)) (hi : ¬ (i < 0 ∨ fs.length ≤ i.toNatClampNeg)) (hv : fs[i.toNatClampNeg]? = some (.int x)) (kk : R X M (pc + 1) L (.int x :: st) h cs sl) : R X M pc L (.int i :: .ref a :: st) h cs sl := by
  obtain ⟨p, l, e, Rm, s, m, args, below, meth, c, Q, E⟩ := X
  obtain ⟨hx, hb, hml, hown, hts, hK, hr, hlk, hE, hnm, hrm, hz⟩ := hO
  intro H locs ls hl hP hS
  show W _ _ _ _ _ _ _ _ _ _ _ _ _ _ _ (F0 m pc ls (.int i :: .ref (pa E a) :: st.map (tr E)))
  rw [pa_at hP.2.1 ha]
  have hq := conc_at (E := E) ha
  rw [cE_int] at hq
  refine va_iald hx hb hK.1 hP.2.2 a 0 hq rfl hi dc ?_
  have e : iv (fs.getD i.toNatClampNeg .null) = x := by rw [List.getD_eq_getElem?_getD, hv]; rfl
  rw [e]
  exact kk H locs ls hl hP hS
theorem R_zald {a : Nat} {i : Int32} {fs : List Value} {x : Int32} (hO : OKX X z d M) (dc : decode M.2.1 pc = .ok (.baload, 1)) (ha : h[a]? = some (21, fs)) (hi : ¬ (i < 0 ∨ fs.length ≤ i.toNatClampNeg)) (hv : fs[i.toNatClampNeg]? = some (.int x)) (kk : R X M (pc + 1) L (.int x :: st) h cs sl) : R X M pc L (.int i :: .ref a :: st) h cs sl := by
  obtain ⟨p, l, e, Rm, s, m, args, below, meth, c, Q, E⟩ := X
  obtain ⟨hx, hb, hml, hown, hts, hK, hr, hlk, hE, hnm, hrm, hz⟩ := hO
  intro H locs ls hl hP hS
  show W _ _ _ _ _ _ _ _ _ _ _ _ _ _ _ (F0 m pc ls (.int i :: .ref (pa E a) :: st.map (tr E)))
  rw [pa_at hP.2.1 ha]
  have hq := conc_at (E := E) ha
  rw [cE_bool] at hq
  refine va_zald hx hb hK.1 hP.2.2 a 1 hq rfl hi dc ?_
  have e : iv (fs.getD i.toNatClampNeg .null) = x := by rw [List.getD_eq_getElem?_getD, hv]; rfl
  rw [e]
  exact kk H locs ls hl hP hS
theorem iv_upd {fs : List Value} {i : Nat} {x : Int32} (hi : i < fs.length) : upd (fun j => iv (fs.getD j .null)) i x = fun j => iv ((fs.set i (.int x)).getD j .null) := by
  funext j
  show (if j = i then x else iv (fs.getD j .null)) = iv ((fs.set i (.int x)).getD j .null)
  rw [List.getD_eq_getElem?_getD, List.getD_eq_getElem?_getD, List.getElem?_set]
  by_cases e : j = i
  · subst e
    rw [if_pos rfl, if_pos rfl, if_pos hi]
    rfl
  · rw [if_neg e, if_neg (fun q => e q.symm)]
theorem R_iast {a : Nat} {i : Int32} {fs : List Value} {x : Int32} (hO : OKX X false d M) (dc : decode M.2.1 pc = .ok (.iastore, 1)) (ha : h[a]? = some (20, fs)) (hi : ¬ (i < 0 ∨ fs.length ≤ i.toNatClampNeg)) (kk : R X M (pc + 1) L st (h.set a (20, fs.set i.toNatClampNeg (.int x))) cs sl) : R X M pc L (.int x :: .int i :: .ref a :: st) h cs sl := by
  obtain ⟨p, l, e, Rm, s, m, args, below, meth, c, Q, E⟩ := X
  obtain ⟨hx, hb, hml, hown, hts, hK, hr, hlk, hE, hnm, hrm, hz⟩ := hO
  intro H locs ls hl hP hS
  show W _ _ _ _ _ _ _ _ _ _ _ _ _ _ _ (F0 m pc ls (.int x :: .int i :: .ref (pa E a) :: st.map (tr E)))
  rw [pa_at hP.2.1 ha]
  have hq := conc_at (E := E) ha
  rw [cE_int] at hq
  refine va_iast hx hb hK.1 hP.2.2 (conc_D h) hS a 0 hq rfl hi dc (fun H1 locs1 hP1 hD1 hS1 => ?_)
  refine kk H1 locs1 ls hl (RepH.ns hz (by rw [List.length_set]; exact hP.2.1) ?_) hS1
  have hi' : i.toNatClampNeg < fs.length := Nat.not_le.mp fun q => hi (Or.inr q)
  rw [iv_upd hi', ← List.length_set (as := fs) (i := i.toNatClampNeg) (a := Value.int x), ← cE_int (E := E), conc_set] at hP1
  exact hP1
theorem R_zast {a : Nat} {i : Int32} {fs : List Value} (hO : OKX X false d M) (dc : decode M.2.1 pc = .ok (.bastore, 1)) (ha : h[a]? = some (21, fs)) (hi : ¬ (i < 0 ∨ fs.length ≤ i.toNatClampNeg)) (kk : R X M (pc + 1) L st (h.set a (21, fs.set i.toNatClampNeg (.int 1))) cs sl) : R X M pc L (.int 1 :: .int i :: .ref a :: st) h cs sl := by
  obtain ⟨p, l, e, Rm, s, m, args, below, meth, c, Q, E⟩ := X
  obtain ⟨hx, hb, hml, hown, hts, hK, hr, hlk, hE, hnm, hrm, hz⟩ := hO
  intro H locs ls hl hP hS
  show W _ _ _ _ _ _ _ _ _ _ _ _ _ _ _ (F0 m pc ls (.int 1 :: .int i :: .ref (pa E a) :: st.map (tr E)))
  rw [pa_at hP.2.1 ha]
  have hq := conc_at (E := E) ha
  rw [cE_bool] at hq
  refine va_zast hx hb hK.1 hP.2.2 (conc_D h) hS a 1 hq rfl hi dc (fun H1 locs1 hP1 hD1 hS1 => ?_)
  refine kk H1 locs1 ls hl (RepH.ns hz (by rw [List.length_set]; exact hP.2.1) ?_) hS1
  have hi' : i.toNatClampNeg < fs.length := Nat.not_le.mp fun q => hi (Or.inr q)
  rw [show vp_nar .boolean 1 = 1 from rfl, iv_upd hi', ← List.length_set (as := fs) (i := i.toNatClampNeg) (a := Value.int 1), ← cE_bool (E := E), conc_set] at hP1
  exact hP1
theorem R_aald {a c2 : Nat} {i : Int32} {fs : List Value} {q : Nat} (hO : OKX X z d M) (dc : decode M.2.1 pc = .ok (.aaload, 1)) (hc2 : c2 = 22 ∨ c2 = 23) (ha : h[a]? = some (c2, fs)) (hi : ¬ (i < 0 ∨ fs.length ≤ i.toNatClampNeg)) (hv : fs[i.toNatClampNeg]? = some (.ref q)) (kk : R X M (pc + 1) L (.ref q :: st) h cs sl) : R X M pc L (.int i :: .ref a :: st) h cs sl := by
  obtain ⟨p, l, e, Rm, s, m, args, below, meth, c, Q, E⟩ := X
  obtain ⟨hx, hb, hml, hown, hts, hK, hr, hlk, hE, hnm, hrm, hz⟩ := hO
  intro H locs ls hl hP hS
  show W _ _ _ _ _ _ _ _ _ _ _ _ _ _ _ (F0 m pc ls (.int i :: .ref (pa E a) :: st.map (tr E)))
  rw [pa_at hP.2.1 ha]
  have hq := conc_at (E := E) ha
  have e : va_rf (rv E (fs.getD i.toNatClampNeg .null)) = tr E (.ref q) := by rw [List.getD_eq_getElem?_getD, hv]; rfl
  rcases hc2 with rfl | rfl
  · rw [cE_st] at hq
    refine va_aldq hx hb hK.1 hP.2.2 a 2 hq rfl hi dc ?_
    rw [e]
    exact kk H locs ls hl hP hS
  · rw [cE_row] at hq
    refine va_aldq hx hb hK.1 hP.2.2 a 3 hq rfl hi dc ?_
    rw [e]
    exact kk H locs ls hl hP hS
theorem cpy_iv {fs gs : List Value} {sp dp n : Nat} (h4 : sp + n ≤ fs.length) (h5 : dp + n ≤ gs.length) : va_cpy (fun j => iv (fs.getD j .null)) (fun j => iv (gs.getD j .null)) sp dp n = fun j => iv ((gs.take dp ++ (fs.drop sp).take n ++ gs.drop (dp + n)).getD j .null) := by
  funext j
  show (if dp ≤ j ∧ j < dp + n then iv (fs.getD (sp + (j - dp)) .null) else iv (gs.getD j .null)) = iv ((gs.take dp ++ (fs.drop sp).take n ++ gs.drop (dp + n)).getD j .null)
  rw [List.getD_eq_getElem?_getD, List.getD_eq_getElem?_getD, List.getD_eq_getElem?_getD]
  by_cases c1 : j < dp
  · rw [if_neg (by omega), List.append_assoc, List.getElem?_append_left (by rw [List.length_take]; omega), List.getElem?_take, if_pos c1]
  · by_cases c2 : j < dp + n
    · rw [if_pos ⟨by omega, c2⟩, List.append_assoc, List.getElem?_append_right (by rw [List.length_take]; omega), List.getElem?_append_left (by rw [List.length_take, List.length_take, List.length_drop]; omega), List.length_take, List.getElem?_take, if_pos (by omega), List.getElem?_drop]
      congr 3
      omega
    · rw [if_neg (by omega), List.getElem?_append_right (by rw [List.length_append, List.length_take, List.length_take, List.length_drop]; omega), List.length_append, List.length_take, List.length_take, List.length_drop, List.getElem?_drop]
      congr 3
      omega
set_option maxHeartbeats 1000000 in
theorem R_copy {idx a b : Nat} {sp dp n : Int32} {fs gs : List Value} (hO : OKX X false d M) (dc : decode M.2.1 pc = .ok (.invokestatic idx, 3)) (hd : 0 < d) (hlink : Cond.methodLink M.1.cls idx arraycopyName ∈ TS) (hw : Cond.native arraycopyName ∈ TS ∧ Cond.static arraycopyName ∈ TS ∧ Cond.initialized "java/lang/System" ∈ TS) (ha : h[a]? = some (20, fs)) (hb2 : h[b]? = some (20, gs))
    (h1 : ¬ sp < 0) (h2 : ¬ dp < 0) (h3 : ¬ n < 0) (h4 : sp.toNatClampNeg + n.toNatClampNeg ≤ fs.length) (h5 : dp.toNatClampNeg + n.toNatClampNeg ≤ gs.length) (hs : (st.map fun v => v.category).sum ≤ 8)
    (kk : R X M (pc + 3) L st (h.set b (20, gs.take dp.toNatClampNeg ++ (fs.drop sp.toNatClampNeg).take n.toNatClampNeg ++ gs.drop (dp.toNatClampNeg + n.toNatClampNeg))) cs sl) : R X M pc L (.int n :: .int dp :: .ref b :: .int sp :: .ref a :: st) h cs sl := by
  obtain ⟨p, l, e, Rm, s, m, args, below, meth, c, Q, E⟩ := X
  obtain ⟨hx, hb, hml, hown, hts, hK, hr, hlk, hE, hnm, hrm, hz⟩ := hO
  intro H locs ls hl hP hS
  show W _ _ _ _ _ _ _ _ _ _ _ _ _ _ _ (F0 m pc ls (.int n :: .int dp :: .ref (pa E b) :: .int sp :: .ref (pa E a) :: st.map (tr E)))
  rw [pa_at hP.2.1 ha, pa_at hP.2.1 hb2]
  have hq := conc_at (E := E) ha
  have hq2 := conc_at (E := E) hb2
  rw [cE_int] at hq hq2
  have hnf : nativeFrameWords "java/lang/System" "arraycopy" 5 ≤ 20 := by decide +kernel
  refine va_copyi hx hb (by rw [hml]; exact hl.1.symm) hown (hts _ hlink) (hts _ hw.1) (hts _ hw.2.1) (hts _ hw.2.2) hK.1 hP.2.2 (conc_D h) hS a b 0 0 hq hq2 rfl rfl rfl h1 h2 h3 h4 h5 (fun _ _ => rfl) (by omega) (by rw [tr_catsum]; omega) dc (fun H1 locs1 hP1 hD1 hS1 => ?_)
  refine kk H1 locs1 ls hl (RepH.ns hz (by rw [List.length_set]; exact hP.2.1) ?_) hS1
  have el : gs.length = (gs.take dp.toNatClampNeg ++ (fs.drop sp.toNatClampNeg).take n.toNatClampNeg ++ gs.drop (dp.toNatClampNeg + n.toNatClampNeg)).length := by
    rw [List.length_append, List.length_append, List.length_take, List.length_take, List.length_drop, List.length_drop]
    omega
  rw [cpy_iv h4 h5, el, ← cE_int (E := E), conc_set] at hP1
  exact hP1
/-- what a call site's words are -/
def LKV (own : String) (idx : Nat) (N : MD) : Prop := Cond.methodLink own idx N.1 ∈ TS ∧ Cond.instanceMethod N.1 ∈ TS ∧ Cond.selects N.1.cls N.1 N.1 ∈ TS ∧ Cond.initialized N.1.cls ∈ TS ∧ Cond.code N.1 N.2.1 N.2.2.1 N.2.2.2 ∈ TS ∧ (N.1.cls ≠ "java/lang/invoke/MethodHandle" ∧ N.1.cls ≠ "java/lang/invoke/VarHandle") ∧ N.2.2.1 ≤ 40
def LKS (own : String) (idx : Nat) (N : MD) : Prop := Cond.methodLink own idx N.1 ∈ TS ∧ Cond.static N.1 ∈ TS ∧ Cond.initialized N.1.cls ∈ TS ∧ Cond.code N.1 N.2.1 N.2.2.1 N.2.2.2 ∈ TS ∧ (N.1.cls ≠ "java/lang/invoke/MethodHandle" ∧ N.1.cls ≠ "java/lang/invoke/VarHandle") ∧ N.2.2.1 ≤ 40
def LKN (own : String) (idx : Nat) (N : MD) : Prop := (own, idx, N.1, RX7) ∈ nestL ∧ Cond.static N.1 ∈ TS ∧ Cond.initialized N.1.cls ∈ TS ∧ Cond.code N.1 N.2.1 N.2.2.1 N.2.2.2 ∈ TS ∧ (N.1.cls ≠ "java/lang/invoke/MethodHandle" ∧ N.1.cls ≠ "java/lang/invoke/VarHandle") ∧ N.2.2.1 ≤ 40
theorem GIc {N : MD} (h : Cond.code N.1 N.2.1 N.2.2.1 N.2.2.2 ∈ TS) : GoodIn TS (wsM N) := by
  intro w hw
  rcases List.mem_cons.mp hw with rfl | hw
  · exact TS_good _ h
  · exact TS_good _ hw
theorem R_back {mc ms : Nat} {rest : List Value} {a : Array Value} {Qp : Option Value → AH → Prop} {p : Program} {l : Launch} {e : Env} {Rm : Room} {s : State} {m : MethodId} {args : Array Value} {below : List Frame} {meth : Method} {c : Code} {Q : State → Prop} {E : EE} {H : Heap} {locs : List Loc} {ls : Array Slot} {st0 : List Value}
    (hr : va_Run p l e Rm s m args below meth c H locs cs sl mc ms (F0 m pc ls st0) (rest.map (tr E)) (QcE E Qp a) (mine E)) (hS : va_S (mine E) s.heap H locs)
    (kk : ∀ (v : Option Value) (h' : AH) (H1 : Heap) (locs1 : List Loc), Qp v h' → RepH E h' H1 → va_S (mine E) s.heap H1 locs1 → W p l e Rm s m args below meth c H1 locs1 (cs + mc) (sl + ms) Q (F0 m (pc + 3) ls ((v.toList ++ rest).map (tr E)))) : W p l e Rm s m args below meth c H locs cs sl Q (F0 m pc ls st0) := by
  intro T hT X
  obtain ⟨v, st₀, t, T', L, h0, X', hL, e1, e2, ⟨v2, h', hv, hq, hP', hz, hk⟩, stp⟩ := hr T hT X
  cases hv
  rw [h0] at hz hk
  obtain ⟨t2, a1, b1⟩ := kk v2 h' T'.heap (locs ++ L) hq (by rw [e1]; exact hP')
    ⟨Nat.le_trans hS.1 (by rw [e1]; exact hz), fun q h1 h2 => by rw [e1, hk q (Nat.lt_of_lt_of_le h1 hS.1) h2]; exact hS.2.1 q h1 h2, fun q hq => by
      rcases List.mem_append.mp hq with h | h
      · exact hS.2.2 q h
      · exact hL q h⟩ T' rfl X'
  refine ⟨t2, stp t2 ?_, b1⟩
  have e3 : (v2.map (tr E)).toList ++ rest.map (tr E) = (v2.toList ++ rest).map (tr E) := by
    cases v2 <;> rfl
  show Steps _ _ _ (T'.setTop { F0 m pc ls st0 with pc := pc + 3, stack := _ }) t2
  rw [e3]
  exact a1
set_option maxHeartbeats 1000000 in
theorem R_callV {N : MD} {d2 mc ms idx a ci : Nat} {As rest fs : List Value} {Qp : Option Value → AH → Prop} {q : vw_C} (hO : OKX X z d M) (dc : decode M.2.1 pc = .ok (.invokevirtual idx, 3)) (hM : C z d2 N mc ms (.ref a :: As) h Qp) (hd : d2 < d) (lkv : LKV M.1.cls idx N) (hp : (parseMethodDescriptor N.1.desc).map (fun d => d.parameters.length) = some As.length) (hst : st = As.reverse ++ .ref a :: rest) (hs : (rest.map fun v => v.category).sum ≤ 8)
    (ha : h[a]? = some (ci, fs)) (hc : cls0[ci]? = some q) (hq : q.1 = N.1.cls) (hci : ci < 20) (hcs : ∃ (p : CX), p = X ∧ cs + mc ≤ p.2.2.2.1.cells ∧ sl + ms ≤ p.2.2.2.1.slots)
    (kk : ∀ (v : Option Value) (h' : AH), Qp v h' → R X M (pc + 3) L (v.toList ++ rest) h' (cs + mc) (sl + ms)) : R X M pc L st h cs sl := by
  obtain ⟨p, l, e, Rm, s, m, args, below, meth, c, Q, E⟩ := X
  obtain ⟨hx, hb, hml, hown, hts, hK, hr, hlk, hE, hnm, hrm, hz⟩ := hO
  obtain ⟨w1, w2, w3, w4, w5, w6, w7⟩ := lkv
  obtain ⟨p9, rfl, hcs⟩ := hcs
  subst hst
  intro H locs ls hl hP hS
  have hqa := conc_at (E := E) ha
  rw [cE_obj hci] at hqa
  have hg : GoodIn TS (wsV M.1.cls idx N.1.cls N.1 (wsM N)) := goodIn_c (TS_good _ w1) (goodIn_c (TS_good _ w2) (goodIn_c (TS_good _ w3) (goodIn_c (TS_good _ w4) (GIc w5))))
  have hrecv := va_recv hK.1 hP.2.2 hc hqa
  rw [hq] at hrecv
  have hst2 : ((As.reverse ++ Value.ref a :: rest).map (tr E)) = (As.map (tr E)).reverse ++ .ref (E.2.1 + a) :: rest.map (tr E) := by
    rw [List.map_append, List.map_reverse, List.map_cons]
    show _ ++ Value.ref (pa E a) :: _ = _
    rw [pa_at hP.2.1 ha]
  have hst3 : ((Value.ref a :: As).map (tr E)) = .ref (E.2.1 + a) :: As.map (tr E) := by
    rw [List.map_cons]
    show Value.ref (pa E a) :: _ = _
    rw [pa_at hP.2.1 ha]
  rw [hst2]
  refine R_back (va_runV (As := As.map (tr E)) ⟨hx, hb, hml, hown, hts⟩ (hM l E hz) (cwV As.length hts hg rfl rfl rfl ⟨rfl, w6.1, w6.2, hp⟩ ⟨by show d2 + 1 ≤ _; omega, by show 8 + (N.2.2.1 + 11) + 60 * d2 ≤ _; omega⟩) ⟨PcE.blind _ _ _, hrecv, fun U hU hW => ⟨by rw [hst3], by rw [hU]; exact hP, RepK.go hK hW (fun q h1 h2 => by rw [hU]; exact hS.2.1 q h1 h2), by rw [hU]; exact Nat.le_trans hE hS.1⟩⟩ rfl (by rw [List.length_map]) hl.1 rfl (lv_room (by rw [tr_catsum]; exact hs)) dc hcs) hS (fun v h' H1 locs1 hq1 hP1 hS1 => kk v h' hq1 H1 locs1 ls hl hP1 hS1)
set_option maxHeartbeats 1000000 in
theorem R_callS {N : MD} {d2 mc ms idx : Nat} {As rest : List Value} {Qp : Option Value → AH → Prop} (hO : OKX X z d M) (dc : decode M.2.1 pc = .ok (.invokestatic idx, 3)) (hM : C z d2 N mc ms As h Qp) (hd : d2 < d) (lkv : LKS M.1.cls idx N) (hp : (parseMethodDescriptor N.1.desc).map (fun d => d.parameters.length) = some As.length) (hst : st = As.reverse ++ rest) (hs : (rest.map fun v => v.category).sum ≤ 8)
    (hcs : ∃ (p : CX), p = X ∧ cs + mc ≤ p.2.2.2.1.cells ∧ sl + ms ≤ p.2.2.2.1.slots)
    (kk : ∀ (v : Option Value) (h' : AH), Qp v h' → R X M (pc + 3) L (v.toList ++ rest) h' (cs + mc) (sl + ms)) : R X M pc L st h cs sl := by
  obtain ⟨p, l, e, Rm, s, m, args, below, meth, c, Q, E⟩ := X
  obtain ⟨hx, hb, hml, hown, hts, hK, hr, hlk, hE, hnm, hrm, hz⟩ := hO
  obtain ⟨w1, w2, w4, w5, w6, w7⟩ := lkv
  obtain ⟨p9, rfl, hcs⟩ := hcs
  subst hst
  intro H locs ls hl hP hS
  have hg : GoodIn TS (va_wsS M.1.cls idx N.1 (wsM N)) := goodIn_c (TS_good _ w1) (goodIn_c (TS_good _ w2) (goodIn_c (TS_good _ w4) (GIc w5)))
  rw [List.map_append, List.map_reverse]
  refine R_back (va_runS (As := As.map (tr E)) ⟨hx, hb, hml, hown, hts⟩ (hM l E hz) (va_cwS As.length hts hg rfl rfl rfl ⟨w6.1, w6.2, hp⟩ ⟨by show d2 + 1 ≤ _; omega, by show 8 + (N.2.2.1 + 11) + 60 * d2 ≤ _; omega⟩) ⟨PcE.blind _ _ _, fun U hU hW => ⟨rfl, by rw [hU]; exact hP, RepK.go hK hW (fun q h1 h2 => by rw [hU]; exact hS.2.1 q h1 h2), by rw [hU]; exact Nat.le_trans hE hS.1⟩⟩ rfl (by rw [List.length_map]) hl.1 rfl (lv_room (by rw [tr_catsum]; exact hs)) dc hcs) hS (fun v h' H1 locs1 hq1 hP1 hS1 => kk v h' hq1 H1 locs1 ls hl hP1 hS1)
set_option maxHeartbeats 1000000 in
theorem R_callSN {N : MD} {d2 mc ms idx : Nat} {As rest : List Value} {Qp : Option Value → AH → Prop} (hO : OKX X z d M) (dc : decode M.2.1 pc = .ok (.invokestatic idx, 3)) (hM : C z d2 N mc ms As h Qp) (hd : d2 < d) (lkv : LKN M.1.cls idx N) (hp : (parseMethodDescriptor N.1.desc).map (fun d => d.parameters.length) = some As.length) (hst : st = As.reverse ++ rest) (hs : (rest.map fun v => v.category).sum ≤ 8)
    (hcs : ∃ (p : CX), p = X ∧ cs + mc ≤ p.2.2.2.1.cells ∧ sl + ms ≤ p.2.2.2.1.slots)
    (kk : ∀ (v : Option Value) (h' : AH), Qp v h' → R X M (pc + 3) L (v.toList ++ rest) h' (cs + mc) (sl + ms)) : R X M pc L st h cs sl := by
  obtain ⟨p, l, e, Rm, s, m, args, below, meth, c, Q, E⟩ := X
  obtain ⟨hx, hb, hml, hown, hts, hK, hr, hlk, hE, hnm, hrm, hz⟩ := hO
  obtain ⟨w1, w2, w4, w5, w6, w7⟩ := lkv
  obtain ⟨p9, rfl, hcs⟩ := hcs
  subst hst
  intro H locs ls hl hP hS
  rw [List.map_append, List.map_reverse]
  refine R_back (va_runSN (As := As.map (tr E)) ⟨hx, hb, hml, hown, hts⟩ (hM l E hz) ⟨va_cnB As.length hts (GIc w5) rfl rfl rfl (hK.2.1 _ w1) (hts _ w4) ⟨w6.1, w6.2, hp⟩ ⟨by show d2 + 1 ≤ _; omega, by show 8 + (N.2.2.1 + 11) + 60 * d2 ≤ _; omega⟩, hts _ w2, trivial⟩ ⟨PcE.blind _ _ _, fun U hU hW => ⟨rfl, by rw [hU]; exact hP, RepK.go hK hW (fun q h1 h2 => by rw [hU]; exact hS.2.1 q h1 h2), by rw [hU]; exact Nat.le_trans hE hS.1⟩⟩ rfl (by rw [List.length_map]) hl.1 rfl (lv_room (by rw [tr_catsum]; exact hs)) dc hcs) hS (fun v h' H1 locs1 hq1 hP1 hS1 => kk v h' hq1 H1 locs1 ls hl hP1 hS1)
end HEAP
end
section
/-! THE VIEW: behind the constructors nothing is made any more and references stay: the heap is a fixed shape with numbers in it. SIM: a walk and a function of these numbers, in step. -/
abbrev Mem : Type := Nat → Nat → Int32
def nn (n : Nat) : List (Option Nat) := List.replicate n none
def shSt (b : Nat) : List (Nat × List (Option Nat)) := [(5, [some (b + 1), some (b + 2), some (b + 3), none, none, none, none, none]), (20, nn 8), (20, nn 8), (20, nn 8)]
def shRw (b : Nat) : List (Nat × List (Option Nat)) := [(4, [some (b + 1), none, none, none]), (20, nn 40)]
def sh : List (Nat × List (Option Nat)) :=
  [(7, [some 1, some 2, some 8, some 12, some 13, some 111, some 121, some 157, none, none]), (23, (List.range 8).map fun i => some (159 + 2 * i)), (6, [some 3, none, none, none, some 7])] ++ shSt 3 ++ [(20, nn 100)] ++ shSt 8 ++ [(22, (List.range 2).map fun i => some (175 + 4 * i)), (0, [some 14, none, none]), (22, (List.range 24).map fun i => some (15 + 4 * i))]
  ++ ((List.range 24).flatMap fun i => shSt (15 + 4 * i)) ++ [(2, [some 112, some 116, some 120, none])] ++ shSt 112 ++ shSt 116 ++ [(20, nn 12), (3, [some 122, some 123, some 124, none, none]), (22, (List.range 8).map fun i => some (125 + 4 * i)), (20, nn 7), (20, nn 7)] ++ ((List.range 8).flatMap fun i => shSt (125 + 4 * i)) ++ [(1, [some 158, none, none, none, none, none]), (20, nn 16)] ++ ((List.range 8).flatMap fun i => shRw (159 + 2 * i)) ++ shSt 175 ++ shSt 179
  ++ [(8, [some 184, some 185, some 186, none, none, some 187, some 188, some 189, none, none, none, none, none, none, none, some 190, some 191, none, some 192, some 193, some 194, some 195, some 196, none]), (20, nn 8), (20, nn 8), (20, nn 320), (20, nn 29), (20, nn 40), (20, nn 100), (20, nn 29), (20, nn 696), (20, nn 29), (20, nn 625), (21, nn 2), (20, nn 58), (20, nn 16)]
theorem sh_len : sh.length = 197 := by decide +kernel
def vw (σ : Mem) (p : Nat) (rs : List (Option Nat)) : List Value := rs.mapIdx fun i r => match r with
  | some q => .ref q
  | none => .int (σ p i)
def view (σ : Mem) : AH := sh.mapIdx fun p c => (c.1, vw σ p c.2)
theorem view_at {σ : Mem} {a t : Nat} {rs : List (Option Nat)} (h : sh[a]? = some (t, rs)) : (view σ)[a]? = some (t, vw σ a rs) := by
  unfold view
  rw [List.getElem?_mapIdx, h]
  rfl
theorem vw_len {σ : Mem} {a : Nat} {rs : List (Option Nat)} : (vw σ a rs).length = rs.length := List.length_mapIdx
theorem vw_int {σ : Mem} {a k : Nat} {rs : List (Option Nat)} (h : rs[k]? = some none) : (vw σ a rs)[k]? = some (.int (σ a k)) := by
  unfold vw
  rw [List.getElem?_mapIdx, h]
  rfl
theorem vw_ref {σ : Mem} {a k q : Nat} {rs : List (Option Nat)} (h : rs[k]? = some (some q)) : (vw σ a rs)[k]? = some (.ref q) := by
  unfold vw
  rw [List.getElem?_mapIdx, h]
  rfl
theorem nn_at {n k : Nat} (h : k < n) : (nn n)[k]? = some none := by
  unfold nn
  rw [List.getElem?_replicate, if_pos h]
theorem nn_len {n : Nat} : (nn n).length = n := List.length_replicate
def st2 (σ : Mem) (a k : Nat) (x : Int32) : Mem := fun b => if b = a then upd (σ a) k x else σ b
theorem vw_set {σ : Mem} {a k : Nat} {x : Int32} {rs : List (Option Nat)} (h : rs[k]? = some none) : (vw σ a rs).set k (.int x) = vw (st2 σ a k x) a rs := by
  have hk : k < rs.length := (List.getElem?_eq_some_iff.mp h).1
  unfold vw
  apply List.ext_getElem?
  intro i
  rw [List.getElem?_set, List.getElem?_mapIdx, List.getElem?_mapIdx, List.length_mapIdx]
  by_cases e : k = i
  · subst e
    rw [if_pos rfl, if_pos hk, h]
    simp [st2, upd]
  · rw [if_neg e]
    have e2 : st2 σ a k x a i = σ a i := by
      unfold st2 upd
      rw [if_pos rfl, if_neg (fun q => e q.symm)]
    rw [e2]
theorem vw_cong {σ τ : Mem} {a b : Nat} {rs : List (Option Nat)} (h : ∀ i, i < rs.length → σ a i = τ b i) : vw σ a rs = vw τ b rs := by
  unfold vw
  apply List.ext_getElem?
  intro i
  rw [List.getElem?_mapIdx, List.getElem?_mapIdx]
  by_cases hi : i < rs.length
  · rw [h i hi]
  · rw [List.getElem?_eq_none (by omega)]
    rfl
theorem view_cong {σ τ : Mem} (h : ∀ (a t : Nat) (rs : List (Option Nat)), sh[a]? = some (t, rs) → ∀ i, i < rs.length → σ a i = τ a i) : view σ = view τ := by
  unfold view
  apply List.ext_getElem?
  intro a
  rw [List.getElem?_mapIdx, List.getElem?_mapIdx]
  cases e : sh[a]? with
  | none => rfl
  | some c => exact congrArg some (congrArg (Prod.mk c.1) (vw_cong (h a c.1 c.2 e)))
theorem view_set {σ τ : Mem} {a t : Nat} {rs : List (Option Nat)} (h : sh[a]? = some (t, rs)) (ho : ∀ b, b ≠ a → τ b = σ b) : (view σ).set a (t, vw τ a rs) = view τ := by
  unfold view
  apply List.ext_getElem?
  intro i
  rw [List.getElem?_set, List.getElem?_mapIdx, List.getElem?_mapIdx, List.length_mapIdx]
  by_cases e : a = i
  · subst e
    rw [if_pos rfl, if_pos (List.getElem?_eq_some_iff.mp h).1, h]
    rfl
  · rw [if_neg e]
    cases e3 : sh[i]? with
    | none => rfl
    | some c => exact congrArg some (congrArg (Prod.mk c.1) (vw_cong (fun j _ => by rw [ho i (fun q => e q.symm)])))
theorem st2_other {σ : Mem} {a k : Nat} {x : Int32} : ∀ b, b ≠ a → st2 σ a k x b = σ b := fun _ h => if_neg h
/-- n cells of a from sp on come to b from dp on -/
def cp2 (σ : Mem) (a b sp dp n : Nat) : Mem := fun c => if c = b then va_cpy (σ a) (σ b) sp dp n else σ c
theorem vw_cpy {σ : Mem} {a b sp dp n ra rb : Nat} (h4 : sp + n ≤ ra) (h5 : dp + n ≤ rb) : (vw σ b (nn rb)).take dp ++ ((vw σ a (nn ra)).drop sp).take n ++ (vw σ b (nn rb)).drop (dp + n) = vw (cp2 σ a b sp dp n) b (nn rb) := by
  have la : (vw σ a (nn ra)).length = ra := by rw [vw_len, nn_len]
  have lb : (vw σ b (nn rb)).length = rb := by rw [vw_len, nn_len]
  have ga : ∀ i, i < ra → (vw σ a (nn ra))[i]? = some (.int (σ a i)) := fun i hi => vw_int (nn_at hi)
  have gb : ∀ i, i < rb → (vw σ b (nn rb))[i]? = some (.int (σ b i)) := fun i hi => vw_int (nn_at hi)
  apply List.ext_getElem?
  intro j
  by_cases hj : j < rb
  · rw [vw_int (nn_at hj)]
    have e : cp2 σ a b sp dp n b j = if dp ≤ j ∧ j < dp + n then σ a (sp + (j - dp)) else σ b j := by
      unfold cp2 va_cpy
      rw [if_pos rfl]
    rw [e]
    by_cases c1 : j < dp
    · rw [if_neg (by omega), List.append_assoc, List.getElem?_append_left (by rw [List.length_take, lb]; omega), List.getElem?_take, if_pos c1, gb j hj]
    · by_cases c2 : j < dp + n
      · rw [if_pos ⟨by omega, c2⟩, List.append_assoc, List.getElem?_append_right (by rw [List.length_take, lb]; omega), List.getElem?_append_left (by rw [List.length_take, List.length_take, List.length_drop, la, lb]; omega), List.length_take, lb, List.getElem?_take, if_pos (by omega), List.getElem?_drop, ga _ (by omega)]
        congr 3
        omega
      · rw [if_neg (by omega), List.getElem?_append_right (by rw [List.length_append, List.length_take, List.length_take, List.length_drop, la, lb]; omega), List.length_append, List.length_take, List.length_take, List.length_drop, la, lb, List.getElem?_drop, gb _ (by omega)]
        congr 3
        omega
  · rw [List.getElem?_eq_none (by rw [List.length_append, List.length_append, List.length_take, List.length_take, List.length_drop, List.length_drop, la, lb]; omega), List.getElem?_eq_none (by rw [vw_len, nn_len]; omega)]
/-- the words of the functions that the walks compute -/
def lt {α β : Type} (e : α) (k : α → β) : β := k e
def ing {α : Type} (i : Int32) (n : Nat) (k : Option α) : Option α := if i < 0 ∨ n ≤ i.toNatClampNeg then none else k
def gd {α : Type} (c : Prop) [Decidable c] (k : Option α) : Option α := if c then k else none
def bd {α β : Type} (o : Option α) (k : α → Option β) : Option β := match o with
  | some a => k a
  | none => none
def bd2 {α β γ : Type} (o : Option (α × β)) (k : α → β → Option γ) : Option γ := match o with
  | some q => k q.1 q.2
  | none => none
abbrev wI (q : Int32 × Mem) : Option Value × Mem := (some (.int q.1), q.2)
abbrev wL (q : Int64 × Mem) : Option Value × Mem := (some (.long q.1), q.2)
abbrev wA (q : Nat × Mem) : Option Value × Mem := (some (.ref q.1), q.2)
abbrev wV (q : Mem) : Option Value × Mem := (none, q)
def isSt (b : Nat) : Prop := sh[b]? = some (5, [some (b + 1), some (b + 2), some (b + 3), none, none, none, none, none]) ∧ sh[b + 1]? = some (20, nn 8) ∧ sh[b + 2]? = some (20, nn 8) ∧ sh[b + 3]? = some (20, nn 8)
def isRw (b : Nat) : Prop := sh[b]? = some (4, [some (b + 1), none, none, none]) ∧ sh[b + 1]? = some (20, nn 40)
def SIM {α : Type} (X : CX) (M : MD) (w : α → Option Value × Mem) (Z : Option Value × Mem → Prop) (pc : Nat) (L : AL) (st : List Value) (σ : Mem) (F : Option α) : Prop := ∀ r, F = some r → Z (w r) → R X M pc L st (view σ) (cX X) (sX X)
def CS (d : Nat) (M : MD) (args : List Value) (σ : Mem) (o : Option (Option Value × Mem)) : Prop := ∀ r, o = some r → C false d M 0 0 args (view σ) (fun v h' => v = r.1 ∧ h' = view r.2)
def OKS (X : CX) (Z : Option Value × Mem → Prop) : Prop := OKQ X (cX X) (sX X) (fun v h' => ∃ τ : Mem, h' = view τ ∧ Z (v, τ))
theorem CS.of {α : Type} {d : Nat} {M : MD} {args : List Value} {σ : Mem} {w : α → Option Value × Mem} {F : Option α} (hy : plainName M.1.cls = true ∧ M.1.name ≠ "law") (hn : (lg_sl args).length ≤ M.2.2.1)
    (k : ∀ (X : CX) (Z : Option Value × Mem → Prop), OKX X false d M → OKS X Z → SIM X M w Z 0 (lv_args 0 args) [] σ F) : CS d M args σ (F.map w) := by
  intro r hr
  cases hF : F with
  | none => rw [hF] at hr; cases hr
  | some r0 =>
    rw [hF] at hr
    cases hr
    refine C.of hy hn (fun X hO hQ => ?_)
    obtain ⟨n1, n2⟩ := hO.none hy.2
    have kk := k X (fun q => q = w r0) hO ?_ r0 hF rfl
    · rw [n1, n2] at kk
      exact kk
    unfold OKS
    rw [n1, n2]
    have e : (fun (v : Option Value) (h' : AH) => v = (w r0).1 ∧ h' = view (w r0).2) = (fun v h' => ∃ τ : Mem, h' = view τ ∧ (v, τ) = w r0) := by
      funext v h'
      apply propext
      constructor
      · intro q
        exact ⟨(w r0).2, q.2, Prod.ext q.1 rfl⟩
      · intro q
        obtain ⟨τ, q1, q2⟩ := q
        rw [← q2]
        exact ⟨rfl, q1⟩
    rw [e] at hQ
    exact hQ
theorem CS.none_of {d : Nat} {M : MD} {args : List Value} {σ : Mem} : CS d M args σ none := fun _ h => by cases h
section SIMR
variable {α : Type} {X : CX} {d : Nat} {M : MD} {w : α → Option Value × Mem} {Z : Option Value × Mem → Prop} {pc : Nat} {L : AL} {st : List Value} {σ : Mem} {F F1 F2 : Option α}
theorem S_none : SIM X M w Z pc L st σ none := fun _ h => by cases h
theorem S_ {pc2 : Nat} {L2 : AL} {st2 : List Value} (f : R X M pc2 L2 st2 (view σ) (cX X) (sX X) → R X M pc L st (view σ) (cX X) (sX X)) (k : SIM X M w Z pc2 L2 st2 σ F) : SIM X M w Z pc L st σ F := fun r h hz => f (k r h hz)
theorem S_getI {idx ci k a : Nat} {ty : FieldType} {fin : Bool} {rs : List (Option Nat)} (hO : OKX X false d M) (dc : decode M.2.1 pc = .ok (.getfield idx, 3)) (fl : FL M.1.cls idx ci k ty fin) (ha : sh[a]? = some (ci, rs)) (hr : rs[k]? = some none) (kk : SIM X M w Z (pc + 3) L (.int (σ a k) :: st) σ F) : SIM X M w Z pc L (.ref a :: st) σ F := fun r h hz => R_getf hO dc fl (view_at ha) (vw_int hr) (kk r h hz)
theorem S_getR {idx ci k a q : Nat} {ty : FieldType} {fin : Bool} {rs : List (Option Nat)} (hO : OKX X false d M) (dc : decode M.2.1 pc = .ok (.getfield idx, 3)) (fl : FL M.1.cls idx ci k ty fin) (ha : sh[a]? = some (ci, rs)) (hr : rs[k]? = some (some q)) (kk : SIM X M w Z (pc + 3) L (.ref q :: st) σ F) : SIM X M w Z pc L (.ref a :: st) σ F := fun r h hz => R_getf hO dc fl (view_at ha) (vw_ref hr) (kk r h hz)
theorem S_put {idx ci k a : Nat} {x : Int32} {rs : List (Option Nat)} {K : Mem → Option α} (hO : OKX X false d M) (dc : decode M.2.1 pc = .ok (.putfield idx, 3)) (fl : FL M.1.cls idx ci k .int false) (ha : sh[a]? = some (ci, rs)) (hr : rs[k]? = some none) (kk : ∀ τ, SIM X M w Z (pc + 3) L st τ (K τ)) : SIM X M w Z pc L (.int x :: .ref a :: st) σ (lt (st2 σ a k x) K) := fun r h hz => R_putf hO dc fl (view_at ha) (by rw [vw_len]; exact (List.getElem?_eq_some_iff.mp hr).1) rfl rfl (fun _ => rfl) (by rw [vw_set hr, view_set ha st2_other]; exact kk _ r h hz)
theorem S_putZ {idx ci k a : Nat} {x : Int32} {rs : List (Option Nat)} {K : Mem → Option α} (hO : OKX X false d M) (dc : decode M.2.1 pc = .ok (.putfield idx, 3)) (fl : FL M.1.cls idx ci k .boolean false) (hx : x = 0 ∨ x = 1) (ha : sh[a]? = some (ci, rs)) (hr : rs[k]? = some none) (kk : ∀ τ, SIM X M w Z (pc + 3) L st τ (K τ)) : SIM X M w Z pc L (.int x :: .ref a :: st) σ (lt (st2 σ a k x) K) := fun r h hz => R_putf hO dc fl (view_at ha) (by rw [vw_len]; exact (List.getElem?_eq_some_iff.mp hr).1) (by rcases hx with rfl | rfl <;> rfl) (by rcases hx with rfl | rfl <;> rfl) (fun _ => rfl) (by rw [vw_set hr, view_set ha st2_other]; exact kk _ r h hz)
theorem ing_in {i : Int32} {n : Nat} {r : α} (h : ing i n F = some r) : (¬ (i < 0 ∨ n ≤ i.toNatClampNeg)) ∧ F = some r := by
  unfold ing at h
  by_cases c : i < 0 ∨ n ≤ i.toNatClampNeg
  · rw [if_pos c] at h; cases h
  · rw [if_neg c] at h; exact ⟨c, h⟩
theorem in_lt {i : Int32} {n : Nat} (h : ¬ (i < 0 ∨ n ≤ i.toNatClampNeg)) : i.toNatClampNeg < n := Nat.not_le.mp fun q => h (Or.inr q)
theorem S_iald {a n : Nat} {i : Int32} (hO : OKX X false d M) (dc : decode M.2.1 pc = .ok (.iaload, 1)) (ha : sh[a]? = some (20, nn n)) (kk : SIM X M w Z (pc + 1) L (.int (σ a i.toNatClampNeg) :: st) σ F) : SIM X M w Z pc L (.int i :: .ref a :: st) σ (ing i n F) := fun r h hz => R_iald hO dc (view_at ha) (by rw [vw_len, nn_len]; exact (ing_in h).1) (vw_int (nn_at (in_lt (ing_in h).1))) (kk r (ing_in h).2 hz)
theorem S_zald {a n : Nat} {i : Int32} (hO : OKX X false d M) (dc : decode M.2.1 pc = .ok (.baload, 1)) (ha : sh[a]? = some (21, nn n)) (kk : SIM X M w Z (pc + 1) L (.int (σ a i.toNatClampNeg) :: st) σ F) : SIM X M w Z pc L (.int i :: .ref a :: st) σ (ing i n F) := fun r h hz => R_zald hO dc (view_at ha) (by rw [vw_len, nn_len]; exact (ing_in h).1) (vw_int (nn_at (in_lt (ing_in h).1))) (kk r (ing_in h).2 hz)
theorem S_iast {a n : Nat} {i x : Int32} {K : Mem → Option α} (hO : OKX X false d M) (dc : decode M.2.1 pc = .ok (.iastore, 1)) (ha : sh[a]? = some (20, nn n)) (kk : ∀ τ, SIM X M w Z (pc + 1) L st τ (K τ)) : SIM X M w Z pc L (.int x :: .int i :: .ref a :: st) σ (ing i n (lt (st2 σ a i.toNatClampNeg x) K)) := fun r h hz => R_iast hO dc (view_at ha) (by rw [vw_len, nn_len]; exact (ing_in h).1) (by rw [vw_set (nn_at (in_lt (ing_in h).1)), view_set ha st2_other]; exact kk _ r (ing_in h).2 hz)
theorem S_zast {a n : Nat} {i : Int32} {K : Mem → Option α} (hO : OKX X false d M) (dc : decode M.2.1 pc = .ok (.bastore, 1)) (ha : sh[a]? = some (21, nn n)) (kk : ∀ τ, SIM X M w Z (pc + 1) L st τ (K τ)) : SIM X M w Z pc L (.int 1 :: .int i :: .ref a :: st) σ (ing i n (lt (st2 σ a i.toNatClampNeg 1) K)) := fun r h hz => R_zast hO dc (view_at ha) (by rw [vw_len, nn_len]; exact (ing_in h).1) (by rw [vw_set (nn_at (in_lt (ing_in h).1)), view_set ha st2_other]; exact kk _ r (ing_in h).2 hz)
theorem S_aald {a n c2 b0 s0 : Nat} {i : Int32} (hO : OKX X false d M) (dc : decode M.2.1 pc = .ok (.aaload, 1)) (hc2 : c2 = 22 ∨ c2 = 23) (ha : sh[a]? = some (c2, (List.range n).map fun i => some (b0 + s0 * i))) (kk : i.toNatClampNeg < n → SIM X M w Z (pc + 1) L (.ref (b0 + s0 * i.toNatClampNeg) :: st) σ F) : SIM X M w Z pc L (.int i :: .ref a :: st) σ (ing i n F) := fun r h hz => R_aald hO dc hc2 (view_at ha) (by rw [vw_len, List.length_map, List.length_range]; exact (ing_in h).1) (vw_ref (by rw [List.getElem?_map, List.getElem?_range (in_lt (ing_in h).1)]; rfl)) (kk (in_lt (ing_in h).1) r (ing_in h).2 hz)
/-- System.arraycopy of ints -/
def cpg (σ : Mem) (a b : Nat) (sp dp n : Int32) (na nb : Nat) (K : Mem → Option α) : Option α := if (¬ sp < 0) ∧ (¬ dp < 0) ∧ (¬ n < 0) ∧ sp.toNatClampNeg + n.toNatClampNeg ≤ na ∧ dp.toNatClampNeg + n.toNatClampNeg ≤ nb then K (cp2 σ a b sp.toNatClampNeg dp.toNatClampNeg n.toNatClampNeg) else none
theorem cp2_other {a b sp dp n : Nat} : ∀ c, c ≠ b → cp2 σ a b sp dp n c = σ c := fun _ h => if_neg h
theorem S_copy {idx a b na nb : Nat} {sp dp n : Int32} {K : Mem → Option α} (hO : OKX X false d M) (dc : decode M.2.1 pc = .ok (.invokestatic idx, 3)) (hd : 0 < d) (hlink : Cond.methodLink M.1.cls idx arraycopyName ∈ TS) (hw : Cond.native arraycopyName ∈ TS ∧ Cond.static arraycopyName ∈ TS ∧ Cond.initialized "java/lang/System" ∈ TS) (ha : sh[a]? = some (20, nn na)) (hb : sh[b]? = some (20, nn nb)) (hs : (st.map fun v => v.category).sum ≤ 8) (kk : ∀ τ, SIM X M w Z (pc + 3) L st τ (K τ)) : SIM X M w Z pc L (.int n :: .int dp :: .ref b :: .int sp :: .ref a :: st) σ (cpg σ a b sp dp n na nb K) := by
  intro r h hz
  unfold cpg at h
  by_cases c : (¬ sp < 0) ∧ (¬ dp < 0) ∧ (¬ n < 0) ∧ sp.toNatClampNeg + n.toNatClampNeg ≤ na ∧ dp.toNatClampNeg + n.toNatClampNeg ≤ nb
  · rw [if_pos c] at h
    obtain ⟨c1, c2, c3, c4, c5⟩ := c
    refine R_copy hO dc hd hlink hw (view_at ha) (view_at hb) c1 c2 c3 (by rw [vw_len, nn_len]; exact c4) (by rw [vw_len, nn_len]; exact c5) hs ?_
    rw [vw_cpy c4 c5, view_set hb cp2_other]
    exact kk _ r h hz
  · rw [if_neg c] at h; cases h
/-- a store names what it stores -/
theorem S_lt {β : Type} {e : β} {K : β → Option α} (k : ∀ x, SIM X M w Z pc L st σ (K x) → True) (kk : SIM X M w Z pc L st σ (K e)) : SIM X M w Z pc L st σ (lt e K) := kk
theorem S_istore {i : Nat} {x : Int32} {L2 : Int32 → AL} {K : Int32 → Option α} (hO : OKX X false d M) (dc : decode M.2.1 pc = .ok (.istore i, 2)) (hi : i < M.2.2.1) (hg : ∀ y, sto1 i (.int y) L = L2 y) (kk : ∀ y, SIM X M w Z (pc + 2) (L2 y) st σ (K y)) : SIM X M w Z pc L (.int x :: st) σ (lt x K) := fun r h hz => R_istore hO dc hi (hg x) (kk x r h hz)
theorem S_istore_n {j : Fin 4} {x : Int32} {L2 : Int32 → AL} {K : Int32 → Option α} (hO : OKX X false d M) (dc : decode M.2.1 pc = .ok (.istore_n j, 1)) (hi : (j : Nat) < M.2.2.1) (hg : ∀ y, sto1 (j : Nat) (.int y) L = L2 y) (kk : ∀ y, SIM X M w Z (pc + 1) (L2 y) st σ (K y)) : SIM X M w Z pc L (.int x :: st) σ (lt x K) := fun r h hz => R_istore_n hO dc hi (hg x) (kk x r h hz)
theorem S_lstore {i : Nat} {x : Int64} {L2 : Int64 → AL} {K : Int64 → Option α} (hO : OKX X false d M) (dc : decode M.2.1 pc = .ok (.lstore i, 2)) (hi : i + 1 < M.2.2.1) (hg : ∀ y, sto2 i (.long y) L = L2 y) (kk : ∀ y, SIM X M w Z (pc + 2) (L2 y) st σ (K y)) : SIM X M w Z pc L (.long x :: st) σ (lt x K) := fun r h hz => R_lstore hO dc hi (hg x) (kk x r h hz)
theorem S_lstore_n {j : Fin 4} {x : Int64} {L2 : Int64 → AL} {K : Int64 → Option α} (hO : OKX X false d M) (dc : decode M.2.1 pc = .ok (.lstore_n j, 1)) (hi : (j : Nat) + 1 < M.2.2.1) (hg : ∀ y, sto2 (j : Nat) (.long y) L = L2 y) (kk : ∀ y, SIM X M w Z (pc + 1) (L2 y) st σ (K y)) : SIM X M w Z pc L (.long x :: st) σ (lt x K) := fun r h hz => R_lstore_n hO dc hi (hg x) (kk x r h hz)
theorem S_iinc {i : Nat} {n : Int} {x v : Int32} {L2 : Int32 → AL} {K : Int32 → Option α} (hO : OKX X false d M) (dc : decode M.2.1 pc = .ok (.iinc i n, 3)) (hx : lk L i = some (.int x)) (hv : Int32.ofInt n = v) (hi : i < M.2.2.1) (hg : ∀ y, sto1 i (.int y) L = L2 y) (kk : ∀ y, SIM X M w Z (pc + 3) (L2 y) st σ (K y)) : SIM X M w Z pc L st σ (lt (x + v) K) := fun r h hz => R_iinc hO dc hx (by rw [hv]) hi (hg _) (kk _ r h hz)
theorem S_idiv {x y : Int32} (hO : OKX X false d M) (dc : decode M.2.1 pc = .ok (.idiv, 1)) (k : SIM X M w Z (pc + 1) L (.int (x / y) :: st) σ F) : SIM X M w Z pc L (.int y :: .int x :: st) σ (gd (¬ y = 0) F) := by
  intro r h hz
  unfold gd at h
  by_cases c : ¬ y = 0
  · rw [if_pos c] at h; exact R_idiv hO dc c (k r h hz)
  · rw [if_neg c] at h; cases h
theorem S_irem {x y : Int32} (hO : OKX X false d M) (dc : decode M.2.1 pc = .ok (.irem, 1)) (k : SIM X M w Z (pc + 1) L (.int (x - x / y * y) :: st) σ F) : SIM X M w Z pc L (.int y :: .int x :: st) σ (gd (¬ y = 0) F) := by
  intro r h hz
  unfold gd at h
  by_cases c : ¬ y = 0
  · rw [if_pos c] at h; exact R_irem hO dc c (k r h hz)
  · rw [if_neg c] at h; cases h
theorem S_ldiv {x y : Int64} (hO : OKX X false d M) (dc : decode M.2.1 pc = .ok (.ldiv, 1)) (k : SIM X M w Z (pc + 1) L (.long (x / y) :: st) σ F) : SIM X M w Z pc L (.long y :: .long x :: st) σ (gd (¬ y = 0) F) := by
  intro r h hz
  unfold gd at h
  by_cases c : ¬ y = 0
  · rw [if_pos c] at h; exact R_ldiv hO dc c (k r h hz)
  · rw [if_neg c] at h; cases h
theorem S_lrem {x y : Int64} (hO : OKX X false d M) (dc : decode M.2.1 pc = .ok (.lrem, 1)) (k : SIM X M w Z (pc + 1) L (.long (x - x / y * y) :: st) σ F) : SIM X M w Z pc L (.long y :: .long x :: st) σ (gd (¬ y = 0) F) := by
  intro r h hz
  unfold gd at h
  by_cases c : ¬ y = 0
  · rw [if_pos c] at h; exact R_lrem hO dc c (k r h hz)
  · rw [if_neg c] at h; cases h
theorem S_ite {c : Prop} [Decidable c] (kt : c → SIM X M w Z pc L st σ F1) (kf : ¬ c → SIM X M w Z pc L st σ F2) : SIM X M w Z pc L st σ (if c then F1 else F2) := by
  by_cases h : c
  · rw [if_pos h]; exact kt h
  · rw [if_neg h]; exact kf h
theorem S_icmp_eq {x y : Int32} {off : Int} {tgt : Nat} (hO : OKX X false d M) (dc : decode M.2.1 pc = .ok (.if_icmp .eq off, 3)) (ht : (pc : Int) + off = (tgt : Int)) (kf : SIM X M w Z (pc + 3) L st σ F2) (kt : SIM X M w Z tgt L st σ F1) : SIM X M w Z pc L (.int y :: .int x :: st) σ (if x = y then F1 else F2) := fun r h hz => R_icmp_eq hO dc ht (fun c => kt r (by rw [if_pos c] at h; exact h) hz) (fun c => kf r (by rw [if_neg c] at h; exact h) hz)
theorem S_icmp_ne {x y : Int32} {off : Int} {tgt : Nat} (hO : OKX X false d M) (dc : decode M.2.1 pc = .ok (.if_icmp .ne off, 3)) (ht : (pc : Int) + off = (tgt : Int)) (kf : SIM X M w Z (pc + 3) L st σ F1) (kt : SIM X M w Z tgt L st σ F2) : SIM X M w Z pc L (.int y :: .int x :: st) σ (if x = y then F1 else F2) := fun r h hz => R_icmp_ne hO dc ht (fun c => kt r (by rw [if_neg c] at h; exact h) hz) (fun c => kf r (by rw [if_pos c] at h; exact h) hz)
theorem S_icmp_lt {x y : Int32} {off : Int} {tgt : Nat} (hO : OKX X false d M) (dc : decode M.2.1 pc = .ok (.if_icmp .lt off, 3)) (ht : (pc : Int) + off = (tgt : Int)) (kf : SIM X M w Z (pc + 3) L st σ F2) (kt : SIM X M w Z tgt L st σ F1) : SIM X M w Z pc L (.int y :: .int x :: st) σ (if x < y then F1 else F2) := fun r h hz => R_icmp_lt hO dc ht (fun c => kt r (by rw [if_pos c] at h; exact h) hz) (fun c => kf r (by rw [if_neg c] at h; exact h) hz)
theorem S_icmp_ge {x y : Int32} {off : Int} {tgt : Nat} (hO : OKX X false d M) (dc : decode M.2.1 pc = .ok (.if_icmp .ge off, 3)) (ht : (pc : Int) + off = (tgt : Int)) (kf : SIM X M w Z (pc + 3) L st σ F2) (kt : SIM X M w Z tgt L st σ F1) : SIM X M w Z pc L (.int y :: .int x :: st) σ (if y ≤ x then F1 else F2) := fun r h hz => R_icmp_ge hO dc ht (fun c => kt r (by rw [if_pos c] at h; exact h) hz) (fun c => kf r (by rw [if_neg c] at h; exact h) hz)
theorem S_icmp_gt {x y : Int32} {off : Int} {tgt : Nat} (hO : OKX X false d M) (dc : decode M.2.1 pc = .ok (.if_icmp .gt off, 3)) (ht : (pc : Int) + off = (tgt : Int)) (kf : SIM X M w Z (pc + 3) L st σ F2) (kt : SIM X M w Z tgt L st σ F1) : SIM X M w Z pc L (.int y :: .int x :: st) σ (if y < x then F1 else F2) := fun r h hz => R_icmp_gt hO dc ht (fun c => kt r (by rw [if_pos c] at h; exact h) hz) (fun c => kf r (by rw [if_neg c] at h; exact h) hz)
theorem S_icmp_le {x y : Int32} {off : Int} {tgt : Nat} (hO : OKX X false d M) (dc : decode M.2.1 pc = .ok (.if_icmp .le off, 3)) (ht : (pc : Int) + off = (tgt : Int)) (kf : SIM X M w Z (pc + 3) L st σ F2) (kt : SIM X M w Z tgt L st σ F1) : SIM X M w Z pc L (.int y :: .int x :: st) σ (if x ≤ y then F1 else F2) := fun r h hz => R_icmp_le hO dc ht (fun c => kt r (by rw [if_pos c] at h; exact h) hz) (fun c => kf r (by rw [if_neg c] at h; exact h) hz)
theorem S_if_eq {x : Int32} {off : Int} {tgt : Nat} (hO : OKX X false d M) (dc : decode M.2.1 pc = .ok (.ifCond .eq off, 3)) (ht : (pc : Int) + off = (tgt : Int)) (kf : SIM X M w Z (pc + 3) L st σ F2) (kt : SIM X M w Z tgt L st σ F1) : SIM X M w Z pc L (.int x :: st) σ (if x = 0 then F1 else F2) := fun r h hz => R_if_eq hO dc ht (fun c => kt r (by rw [if_pos c] at h; exact h) hz) (fun c => kf r (by rw [if_neg c] at h; exact h) hz)
theorem S_if_ne {x : Int32} {off : Int} {tgt : Nat} (hO : OKX X false d M) (dc : decode M.2.1 pc = .ok (.ifCond .ne off, 3)) (ht : (pc : Int) + off = (tgt : Int)) (kf : SIM X M w Z (pc + 3) L st σ F1) (kt : SIM X M w Z tgt L st σ F2) : SIM X M w Z pc L (.int x :: st) σ (if x = 0 then F1 else F2) := fun r h hz => R_if_ne hO dc ht (fun c => kt r (by rw [if_neg c] at h; exact h) hz) (fun c => kf r (by rw [if_pos c] at h; exact h) hz)
theorem S_if_lt {x : Int32} {off : Int} {tgt : Nat} (hO : OKX X false d M) (dc : decode M.2.1 pc = .ok (.ifCond .lt off, 3)) (ht : (pc : Int) + off = (tgt : Int)) (kf : SIM X M w Z (pc + 3) L st σ F2) (kt : SIM X M w Z tgt L st σ F1) : SIM X M w Z pc L (.int x :: st) σ (if x < 0 then F1 else F2) := fun r h hz => R_if_lt hO dc ht (fun c => kt r (by rw [if_pos c] at h; exact h) hz) (fun c => kf r (by rw [if_neg c] at h; exact h) hz)
theorem S_if_ge {x : Int32} {off : Int} {tgt : Nat} (hO : OKX X false d M) (dc : decode M.2.1 pc = .ok (.ifCond .ge off, 3)) (ht : (pc : Int) + off = (tgt : Int)) (kf : SIM X M w Z (pc + 3) L st σ F2) (kt : SIM X M w Z tgt L st σ F1) : SIM X M w Z pc L (.int x :: st) σ (if 0 ≤ x then F1 else F2) := fun r h hz => R_if_ge hO dc ht (fun c => kt r (by rw [if_pos c] at h; exact h) hz) (fun c => kf r (by rw [if_neg c] at h; exact h) hz)
theorem S_if_gt {x : Int32} {off : Int} {tgt : Nat} (hO : OKX X false d M) (dc : decode M.2.1 pc = .ok (.ifCond .gt off, 3)) (ht : (pc : Int) + off = (tgt : Int)) (kf : SIM X M w Z (pc + 3) L st σ F2) (kt : SIM X M w Z tgt L st σ F1) : SIM X M w Z pc L (.int x :: st) σ (if 0 < x then F1 else F2) := fun r h hz => R_if_gt hO dc ht (fun c => kt r (by rw [if_pos c] at h; exact h) hz) (fun c => kf r (by rw [if_neg c] at h; exact h) hz)
theorem S_if_le {x : Int32} {off : Int} {tgt : Nat} (hO : OKX X false d M) (dc : decode M.2.1 pc = .ok (.ifCond .le off, 3)) (ht : (pc : Int) + off = (tgt : Int)) (kf : SIM X M w Z (pc + 3) L st σ F2) (kt : SIM X M w Z tgt L st σ F1) : SIM X M w Z pc L (.int x :: st) σ (if x ≤ 0 then F1 else F2) := fun r h hz => R_if_le hO dc ht (fun c => kt r (by rw [if_pos c] at h; exact h) hz) (fun c => kf r (by rw [if_neg c] at h; exact h) hz)
/-- a table of ways -/
def swi (x : Int32) (lo : Int) (n : Nat) (f : Nat → Option α) (g : Option α) : Option α := if x.toInt < lo ∨ lo + n ≤ x.toInt then g else f (x.toInt - lo).toNat
theorem S_tsw {dflt lo hi : Int} {offs : Array Int} {len n : Nat} {x : Int32} {f : Nat → Option α} {g : Option α} {tgt : Nat → Nat} {tgd : Nat} (hO : OKX X false d M) (dc : decode M.2.1 pc = .ok (.tableswitch dflt lo hi offs, len)) (hn : hi + 1 = lo + (n : Int)) (ho : ∀ j, j < n → ∃ off, offs[j]? = some off ∧ (pc : Int) + off = (tgt j : Int)) (hd : (pc : Int) + dflt = (tgd : Int)) (kf : SIM X M w Z tgd L st σ g) (kt : ∀ j, j < n → SIM X M w Z (tgt j) L st σ (f j)) : SIM X M w Z pc L (.int x :: st) σ (swi x lo n f g) := by
  intro r h hz
  unfold swi at h
  refine R_tsw hO dc (fun j off h1 h2 h3 => ?_) (fun j hj => ?_) hd (fun c => ?_)
  · have hj : j < n := by omega
    obtain ⟨off2, e1, e2⟩ := ho j hj
    rw [h1] at e1
    cases e1
    refine ⟨tgt j, e2, kt j hj r ?_ hz⟩
    have e4 : (x.toInt - lo).toNat = j := by omega
    rw [if_neg (by omega), e4] at h
    exact h
  · obtain ⟨off2, e1, e2⟩ := ho j (by omega)
    exact ⟨off2, e1⟩
  · refine kf r ?_ hz
    rw [if_pos (by omega)] at h
    exact h
theorem S_sub {L2 : AL} (ks : List Nat) (hl : ks.filterMap (fun k => L[k]?) = L2) (kk : SIM X M w Z pc L2 st σ F) : SIM X M w Z pc L st σ F := fun r h hz => R_sub ks hl (kk r h hz)
def imax (x y : Int32) : Int32 := if x < y then y else x
def imin (x y : Int32) : Int32 := if y < x then y else x
theorem S_max {idx : Nat} {x y : Int32} (hO : OKX X false d M) (dc : decode M.2.1 pc = .ok (.invokestatic idx, 3)) (hd : 0 < d) (hlink : Cond.methodLink M.1.cls idx Lib.Math.max.name ∈ TS) (hw : Cond.static Lib.Math.max.name ∈ TS ∧ Cond.initialized "java/lang/Math" ∈ TS ∧ Cond.code Lib.Math.max.name Lib.Math.max.code 2 (some .int) ∈ TS) (hs : (st.map fun v => v.category).sum ≤ 8) (kk : SIM X M w Z (pc + 3) L (.int (imax x y) :: st) σ F) : SIM X M w Z pc L (.int y :: .int x :: st) σ F := fun r h hz => R_mmax hO dc hd hlink hw hs hO.room (kk r h hz)
theorem S_min {idx : Nat} {x y : Int32} (hO : OKX X false d M) (dc : decode M.2.1 pc = .ok (.invokestatic idx, 3)) (hd : 0 < d) (hlink : Cond.methodLink M.1.cls idx Lib.Math.min.name ∈ TS) (hw : Cond.static Lib.Math.min.name ∈ TS ∧ Cond.initialized "java/lang/Math" ∈ TS ∧ Cond.code Lib.Math.min.name Lib.Math.min.code 2 (some .int) ∈ TS) (hs : (st.map fun v => v.category).sum ≤ 8) (kk : SIM X M w Z (pc + 3) L (.int (imin x y) :: st) σ F) : SIM X M w Z pc L (.int y :: .int x :: st) σ F := fun r h hz => R_mmin hO dc hd hlink hw hs hO.room (kk r h hz)
def lmax (x y : Int64) : Int64 := if y < x then x else y
theorem S_maxL {idx : Nat} {x y : Int64} (hO : OKX X false d M) (dc : decode M.2.1 pc = .ok (.invokestatic idx, 3)) (hd : 0 < d) (hlink : Cond.methodLink M.1.cls idx Lib.MathLoose.max_long.x ∈ TS) (hw : Cond.static Lib.MathLoose.max_long.x ∈ TS ∧ Cond.initialized "java/lang/Math" ∈ TS ∧ Cond.code Lib.MathLoose.max_long.x Lib.MathLoose.max_long.code 4 (some .long) ∈ TS) (hs : (st.map fun v => v.category).sum ≤ 8) (kk : SIM X M w Z (pc + 3) L (.long (lmax x y) :: st) σ F) : SIM X M w Z pc L (.long y :: .long x :: st) σ F := fun r h hz => R_mmaxL hO dc hd hlink hw hs hO.room (kk r h hz)
abbrev wR (p : Nat) (q : Mem) : Option Value × Mem := (some (.ref p), q)
theorem S_rret {x p : Nat} {nm : String} {w' : Mem → Option Value × Mem} (hw : w' = wR p) {Z : Option Value × Mem → Prop} (hO : OKX X false d M) (hQ : OKS X Z) (dc : decode M.2.1 pc = .ok (.areturn, 1)) (ht : M.2.2.2 = some (.object nm)) (hx : x = p) : SIM X M w' Z pc L [.ref x] σ (some σ) := by
  intro r h hz
  cases h
  subst hw
  subst hx
  exact R_aret hO hQ dc ht ⟨σ, rfl, hz⟩
theorem S_name {β : Type} {K : β → Option α} {e : β} (kk : ∀ x, SIM X M w Z pc L st σ (K x)) : SIM X M w Z pc L st σ (lt e K) := kk e
theorem S_iret {x : Int32} {w' : Int32 × Mem → Option Value × Mem} (hw : w' = wI) {Z : Option Value × Mem → Prop} (hO : OKX X false d M) (hQ : OKS X Z) (dc : decode M.2.1 pc = .ok (.ireturn, 1)) (ht : M.2.2.2 = some .int) : SIM X M w' Z pc L [.int x] σ (some (x, σ)) := by
  intro r h hz
  cases h
  subst hw
  exact R_iret hO hQ dc ht ⟨σ, rfl, hz⟩
theorem S_zret0 {x : Int32} {w' : Int32 × Mem → Option Value × Mem} (hw : w' = wI) {Z : Option Value × Mem → Prop} (hO : OKX X false d M) (hQ : OKS X Z) (dc : decode M.2.1 pc = .ok (.ireturn, 1)) (ht : M.2.2.2 = some .boolean) (hx : x = 0 ∨ x = 1) : SIM X M w' Z pc L [.int x] σ (some (x, σ)) := by
  intro r h hz
  cases h
  subst hw
  exact R_zret hO hQ dc ht hx ⟨σ, rfl, hz⟩
theorem S_zret {x : Int32} {w' : Int32 × Mem → Option Value × Mem} (hw : w' = wI) {Z : Option Value × Mem → Prop} (hO : OKX X false d M) (hQ : OKS X Z) (dc : decode M.2.1 pc = .ok (.ireturn, 1)) (ht : M.2.2.2 = some .boolean) : SIM X M w' Z pc L [.int x] σ (gd (x = 0 ∨ x = 1) (some (x, σ))) := by
  intro r h hz
  unfold gd at h
  by_cases c : x = 0 ∨ x = 1
  · rw [if_pos c] at h
    cases h
    subst hw
    exact R_zret hO hQ dc ht c ⟨σ, rfl, hz⟩
  · rw [if_neg c] at h; cases h
theorem S_lret {x : Int64} {w' : Int64 × Mem → Option Value × Mem} (hw : w' = wL) {Z : Option Value × Mem → Prop} (hO : OKX X false d M) (hQ : OKS X Z) (dc : decode M.2.1 pc = .ok (.lreturn, 1)) (ht : M.2.2.2 = some .long) : SIM X M w' Z pc L [.long x] σ (some (x, σ)) := by
  intro r h hz
  cases h
  subst hw
  exact R_lret hO hQ dc ht ⟨σ, rfl, hz⟩
theorem S_aret {x : Nat} {nm : String} {w' : Nat × Mem → Option Value × Mem} (hw : w' = wA) {Z : Option Value × Mem → Prop} (hO : OKX X false d M) (hQ : OKS X Z) (dc : decode M.2.1 pc = .ok (.areturn, 1)) (ht : M.2.2.2 = some (.object nm)) : SIM X M w' Z pc L [.ref x] σ (some (x, σ)) := by
  intro r h hz
  cases h
  subst hw
  exact R_aret hO hQ dc ht ⟨σ, rfl, hz⟩
theorem S_vret {w' : Mem → Option Value × Mem} (hw : w' = wV) {Z : Option Value × Mem → Prop} (hO : OKX X false d M) (hQ : OKS X Z) (dc : decode M.2.1 pc = .ok (.return_, 1)) (ht : M.2.2.2 = none) : SIM X M w' Z pc L [] σ (some σ) := by
  intro r h hz
  cases h
  subst hw
  exact R_vret hO hQ dc ht ⟨σ, rfl, hz⟩
/-- a receiver -/
def RC (a : Nat) (N : MD) : Prop := ∃ (ci : Nat) (rs : List (Option Nat)) (q : vw_C), sh[a]? = some (ci, rs) ∧ cls0[ci]? = some q ∧ q.1 = N.1.cls ∧ ci < 20
def np (N : MD) (n : Nat) : Prop := (parseMethodDescriptor N.1.desc).map (fun d => d.parameters.length) = some n
theorem S_callVI {N : MD} {d2 idx : Nat} {a : Nat} {As rest : List Value} {G : Option (Int32 × Mem)} {K : Int32 → Mem → Option α} (hO : OKX X false d M) (dc : decode M.2.1 pc = .ok (.invokevirtual idx, 3)) (hM : CS d2 N (.ref a :: As) σ (G.map wI)) (hd : d2 < d) (lkv : LKV M.1.cls idx N) (hp : np N As.length) (rc : RC a N) (hst : st = As.reverse ++ .ref a :: rest) (hs : (rest.map fun v => v.category).sum ≤ 8) (kk : ∀ x τ, SIM X M w Z (pc + 3) L (.int x :: rest) τ (K x τ)) : SIM X M w Z pc L st σ (bd2 G K) := by
  intro r h hz
  cases hG : G with
  | none => rw [hG] at h; cases h
  | some q =>
    rw [hG] at h hM
    obtain ⟨ci, rs, vc, r1, r2, r3, r4⟩ := rc
    refine R_callV hO dc (hM _ rfl) hd lkv hp hst hs (view_at r1) r2 r3 r4 ⟨X, rfl, hO.room⟩ (fun v h' hv => ?_)
    obtain ⟨hv1, hv2⟩ := hv
    rw [hv1, hv2]
    exact kk q.1 q.2 r h hz
theorem S_callVL {N : MD} {d2 idx : Nat} {a : Nat} {As rest : List Value} {G : Option (Int64 × Mem)} {K : Int64 → Mem → Option α} (hO : OKX X false d M) (dc : decode M.2.1 pc = .ok (.invokevirtual idx, 3)) (hM : CS d2 N (.ref a :: As) σ (G.map wL)) (hd : d2 < d) (lkv : LKV M.1.cls idx N) (hp : np N As.length) (rc : RC a N) (hst : st = As.reverse ++ .ref a :: rest) (hs : (rest.map fun v => v.category).sum ≤ 8) (kk : ∀ x τ, SIM X M w Z (pc + 3) L (.long x :: rest) τ (K x τ)) : SIM X M w Z pc L st σ (bd2 G K) := by
  intro r h hz
  cases hG : G with
  | none => rw [hG] at h; cases h
  | some q =>
    rw [hG] at h hM
    obtain ⟨ci, rs, vc, r1, r2, r3, r4⟩ := rc
    refine R_callV hO dc (hM _ rfl) hd lkv hp hst hs (view_at r1) r2 r3 r4 ⟨X, rfl, hO.room⟩ (fun v h' hv => ?_)
    obtain ⟨hv1, hv2⟩ := hv
    rw [hv1, hv2]
    exact kk q.1 q.2 r h hz
theorem S_callVA {N : MD} {d2 idx : Nat} {a : Nat} {As rest : List Value} {G : Option (Nat × Mem)} {K : Nat → Mem → Option α} (hO : OKX X false d M) (dc : decode M.2.1 pc = .ok (.invokevirtual idx, 3)) (hM : CS d2 N (.ref a :: As) σ (G.map wA)) (hd : d2 < d) (lkv : LKV M.1.cls idx N) (hp : np N As.length) (rc : RC a N) (hst : st = As.reverse ++ .ref a :: rest) (hs : (rest.map fun v => v.category).sum ≤ 8) (kk : ∀ x τ, SIM X M w Z (pc + 3) L (.ref x :: rest) τ (K x τ)) : SIM X M w Z pc L st σ (bd2 G K) := by
  intro r h hz
  cases hG : G with
  | none => rw [hG] at h; cases h
  | some q =>
    rw [hG] at h hM
    obtain ⟨ci, rs, vc, r1, r2, r3, r4⟩ := rc
    refine R_callV hO dc (hM _ rfl) hd lkv hp hst hs (view_at r1) r2 r3 r4 ⟨X, rfl, hO.room⟩ (fun v h' hv => ?_)
    obtain ⟨hv1, hv2⟩ := hv
    rw [hv1, hv2]
    exact kk q.1 q.2 r h hz
theorem S_callVV {N : MD} {d2 idx : Nat} {a : Nat} {As rest : List Value} {G : Option (Mem)} {K : Mem → Option α} (hO : OKX X false d M) (dc : decode M.2.1 pc = .ok (.invokevirtual idx, 3)) (hM : CS d2 N (.ref a :: As) σ (G.map wV)) (hd : d2 < d) (lkv : LKV M.1.cls idx N) (hp : np N As.length) (rc : RC a N) (hst : st = As.reverse ++ .ref a :: rest) (hs : (rest.map fun v => v.category).sum ≤ 8) (kk : ∀ τ, SIM X M w Z (pc + 3) L rest τ (K τ)) : SIM X M w Z pc L st σ (bd G K) := by
  intro r h hz
  cases hG : G with
  | none => rw [hG] at h; cases h
  | some q =>
    rw [hG] at h hM
    obtain ⟨ci, rs, vc, r1, r2, r3, r4⟩ := rc
    refine R_callV hO dc (hM _ rfl) hd lkv hp hst hs (view_at r1) r2 r3 r4 ⟨X, rfl, hO.room⟩ (fun v h' hv => ?_)
    obtain ⟨hv1, hv2⟩ := hv
    rw [hv1, hv2]
    exact kk q r h hz
theorem S_callVR {N : MD} {d2 idx : Nat} {a : Nat} {p : Nat} {As rest : List Value} {G : Option (Mem)} {K : Mem → Option α} (hO : OKX X false d M) (dc : decode M.2.1 pc = .ok (.invokevirtual idx, 3)) (hM : CS d2 N (.ref a :: As) σ (G.map (wR p))) (hd : d2 < d) (lkv : LKV M.1.cls idx N) (hp : np N As.length) (rc : RC a N) (hst : st = As.reverse ++ .ref a :: rest) (hs : (rest.map fun v => v.category).sum ≤ 8) (kk : ∀ τ, SIM X M w Z (pc + 3) L (.ref p :: rest) τ (K τ)) : SIM X M w Z pc L st σ (bd G K) := by
  intro r h hz
  cases hG : G with
  | none => rw [hG] at h; cases h
  | some q =>
    rw [hG] at h hM
    obtain ⟨ci, rs, vc, r1, r2, r3, r4⟩ := rc
    refine R_callV hO dc (hM _ rfl) hd lkv hp hst hs (view_at r1) r2 r3 r4 ⟨X, rfl, hO.room⟩ (fun v h' hv => ?_)
    obtain ⟨hv1, hv2⟩ := hv
    rw [hv1, hv2]
    exact kk q r h hz
theorem S_callSI {N : MD} {d2 idx : Nat} {As rest : List Value} {G : Option (Int32 × Mem)} {K : Int32 → Mem → Option α} (hO : OKX X false d M) (dc : decode M.2.1 pc = .ok (.invokestatic idx, 3)) (hM : CS d2 N As σ (G.map wI)) (hd : d2 < d) (lkv : LKS M.1.cls idx N) (hp : np N As.length) (hst : st = As.reverse ++ rest) (hs : (rest.map fun v => v.category).sum ≤ 8) (kk : ∀ x τ, SIM X M w Z (pc + 3) L (.int x :: rest) τ (K x τ)) : SIM X M w Z pc L st σ (bd2 G K) := by
  intro r h hz
  cases hG : G with
  | none => rw [hG] at h; cases h
  | some q =>
    rw [hG] at h hM
    refine R_callS hO dc (hM _ rfl) hd lkv hp hst hs ⟨X, rfl, hO.room⟩ (fun v h' hv => ?_)
    obtain ⟨hv1, hv2⟩ := hv
    rw [hv1, hv2]
    exact kk q.1 q.2 r h hz
theorem S_callSL {N : MD} {d2 idx : Nat} {As rest : List Value} {G : Option (Int64 × Mem)} {K : Int64 → Mem → Option α} (hO : OKX X false d M) (dc : decode M.2.1 pc = .ok (.invokestatic idx, 3)) (hM : CS d2 N As σ (G.map wL)) (hd : d2 < d) (lkv : LKS M.1.cls idx N) (hp : np N As.length) (hst : st = As.reverse ++ rest) (hs : (rest.map fun v => v.category).sum ≤ 8) (kk : ∀ x τ, SIM X M w Z (pc + 3) L (.long x :: rest) τ (K x τ)) : SIM X M w Z pc L st σ (bd2 G K) := by
  intro r h hz
  cases hG : G with
  | none => rw [hG] at h; cases h
  | some q =>
    rw [hG] at h hM
    refine R_callS hO dc (hM _ rfl) hd lkv hp hst hs ⟨X, rfl, hO.room⟩ (fun v h' hv => ?_)
    obtain ⟨hv1, hv2⟩ := hv
    rw [hv1, hv2]
    exact kk q.1 q.2 r h hz
theorem S_callSA {N : MD} {d2 idx : Nat} {As rest : List Value} {G : Option (Nat × Mem)} {K : Nat → Mem → Option α} (hO : OKX X false d M) (dc : decode M.2.1 pc = .ok (.invokestatic idx, 3)) (hM : CS d2 N As σ (G.map wA)) (hd : d2 < d) (lkv : LKS M.1.cls idx N) (hp : np N As.length) (hst : st = As.reverse ++ rest) (hs : (rest.map fun v => v.category).sum ≤ 8) (kk : ∀ x τ, SIM X M w Z (pc + 3) L (.ref x :: rest) τ (K x τ)) : SIM X M w Z pc L st σ (bd2 G K) := by
  intro r h hz
  cases hG : G with
  | none => rw [hG] at h; cases h
  | some q =>
    rw [hG] at h hM
    refine R_callS hO dc (hM _ rfl) hd lkv hp hst hs ⟨X, rfl, hO.room⟩ (fun v h' hv => ?_)
    obtain ⟨hv1, hv2⟩ := hv
    rw [hv1, hv2]
    exact kk q.1 q.2 r h hz
theorem S_callSV {N : MD} {d2 idx : Nat} {As rest : List Value} {G : Option (Mem)} {K : Mem → Option α} (hO : OKX X false d M) (dc : decode M.2.1 pc = .ok (.invokestatic idx, 3)) (hM : CS d2 N As σ (G.map wV)) (hd : d2 < d) (lkv : LKS M.1.cls idx N) (hp : np N As.length) (hst : st = As.reverse ++ rest) (hs : (rest.map fun v => v.category).sum ≤ 8) (kk : ∀ τ, SIM X M w Z (pc + 3) L rest τ (K τ)) : SIM X M w Z pc L st σ (bd G K) := by
  intro r h hz
  cases hG : G with
  | none => rw [hG] at h; cases h
  | some q =>
    rw [hG] at h hM
    refine R_callS hO dc (hM _ rfl) hd lkv hp hst hs ⟨X, rfl, hO.room⟩ (fun v h' hv => ?_)
    obtain ⟨hv1, hv2⟩ := hv
    rw [hv1, hv2]
    exact kk q r h hz
theorem S_callSR {N : MD} {d2 idx : Nat} {p : Nat} {As rest : List Value} {G : Option (Mem)} {K : Mem → Option α} (hO : OKX X false d M) (dc : decode M.2.1 pc = .ok (.invokestatic idx, 3)) (hM : CS d2 N As σ (G.map (wR p))) (hd : d2 < d) (lkv : LKS M.1.cls idx N) (hp : np N As.length) (hst : st = As.reverse ++ rest) (hs : (rest.map fun v => v.category).sum ≤ 8) (kk : ∀ τ, SIM X M w Z (pc + 3) L (.ref p :: rest) τ (K τ)) : SIM X M w Z pc L st σ (bd G K) := by
  intro r h hz
  cases hG : G with
  | none => rw [hG] at h; cases h
  | some q =>
    rw [hG] at h hM
    refine R_callS hO dc (hM _ rfl) hd lkv hp hst hs ⟨X, rfl, hO.room⟩ (fun v h' hv => ?_)
    obtain ⟨hv1, hv2⟩ := hv
    rw [hv1, hv2]
    exact kk q r h hz
theorem S_callNI {N : MD} {d2 idx : Nat} {As rest : List Value} {G : Option (Int32 × Mem)} {K : Int32 → Mem → Option α} (hO : OKX X false d M) (dc : decode M.2.1 pc = .ok (.invokestatic idx, 3)) (hM : CS d2 N As σ (G.map wI)) (hd : d2 < d) (lkv : LKN M.1.cls idx N) (hp : np N As.length) (hst : st = As.reverse ++ rest) (hs : (rest.map fun v => v.category).sum ≤ 8) (kk : ∀ x τ, SIM X M w Z (pc + 3) L (.int x :: rest) τ (K x τ)) : SIM X M w Z pc L st σ (bd2 G K) := by
  intro r h hz
  cases hG : G with
  | none => rw [hG] at h; cases h
  | some q =>
    rw [hG] at h hM
    refine R_callSN hO dc (hM _ rfl) hd lkv hp hst hs ⟨X, rfl, hO.room⟩ (fun v h' hv => ?_)
    obtain ⟨hv1, hv2⟩ := hv
    rw [hv1, hv2]
    exact kk q.1 q.2 r h hz
theorem S_callNL {N : MD} {d2 idx : Nat} {As rest : List Value} {G : Option (Int64 × Mem)} {K : Int64 → Mem → Option α} (hO : OKX X false d M) (dc : decode M.2.1 pc = .ok (.invokestatic idx, 3)) (hM : CS d2 N As σ (G.map wL)) (hd : d2 < d) (lkv : LKN M.1.cls idx N) (hp : np N As.length) (hst : st = As.reverse ++ rest) (hs : (rest.map fun v => v.category).sum ≤ 8) (kk : ∀ x τ, SIM X M w Z (pc + 3) L (.long x :: rest) τ (K x τ)) : SIM X M w Z pc L st σ (bd2 G K) := by
  intro r h hz
  cases hG : G with
  | none => rw [hG] at h; cases h
  | some q =>
    rw [hG] at h hM
    refine R_callSN hO dc (hM _ rfl) hd lkv hp hst hs ⟨X, rfl, hO.room⟩ (fun v h' hv => ?_)
    obtain ⟨hv1, hv2⟩ := hv
    rw [hv1, hv2]
    exact kk q.1 q.2 r h hz
theorem S_callNA {N : MD} {d2 idx : Nat} {As rest : List Value} {G : Option (Nat × Mem)} {K : Nat → Mem → Option α} (hO : OKX X false d M) (dc : decode M.2.1 pc = .ok (.invokestatic idx, 3)) (hM : CS d2 N As σ (G.map wA)) (hd : d2 < d) (lkv : LKN M.1.cls idx N) (hp : np N As.length) (hst : st = As.reverse ++ rest) (hs : (rest.map fun v => v.category).sum ≤ 8) (kk : ∀ x τ, SIM X M w Z (pc + 3) L (.ref x :: rest) τ (K x τ)) : SIM X M w Z pc L st σ (bd2 G K) := by
  intro r h hz
  cases hG : G with
  | none => rw [hG] at h; cases h
  | some q =>
    rw [hG] at h hM
    refine R_callSN hO dc (hM _ rfl) hd lkv hp hst hs ⟨X, rfl, hO.room⟩ (fun v h' hv => ?_)
    obtain ⟨hv1, hv2⟩ := hv
    rw [hv1, hv2]
    exact kk q.1 q.2 r h hz
theorem S_callNV {N : MD} {d2 idx : Nat} {As rest : List Value} {G : Option (Mem)} {K : Mem → Option α} (hO : OKX X false d M) (dc : decode M.2.1 pc = .ok (.invokestatic idx, 3)) (hM : CS d2 N As σ (G.map wV)) (hd : d2 < d) (lkv : LKN M.1.cls idx N) (hp : np N As.length) (hst : st = As.reverse ++ rest) (hs : (rest.map fun v => v.category).sum ≤ 8) (kk : ∀ τ, SIM X M w Z (pc + 3) L rest τ (K τ)) : SIM X M w Z pc L st σ (bd G K) := by
  intro r h hz
  cases hG : G with
  | none => rw [hG] at h; cases h
  | some q =>
    rw [hG] at h hM
    refine R_callSN hO dc (hM _ rfl) hd lkv hp hst hs ⟨X, rfl, hO.room⟩ (fun v h' hv => ?_)
    obtain ⟨hv1, hv2⟩ := hv
    rw [hv1, hv2]
    exact kk q r h hz
theorem S_callNR {N : MD} {d2 idx : Nat} {p : Nat} {As rest : List Value} {G : Option (Mem)} {K : Mem → Option α} (hO : OKX X false d M) (dc : decode M.2.1 pc = .ok (.invokestatic idx, 3)) (hM : CS d2 N As σ (G.map (wR p))) (hd : d2 < d) (lkv : LKN M.1.cls idx N) (hp : np N As.length) (hst : st = As.reverse ++ rest) (hs : (rest.map fun v => v.category).sum ≤ 8) (kk : ∀ τ, SIM X M w Z (pc + 3) L (.ref p :: rest) τ (K τ)) : SIM X M w Z pc L st σ (bd G K) := by
  intro r h hz
  cases hG : G with
  | none => rw [hG] at h; cases h
  | some q =>
    rw [hG] at h hM
    refine R_callSN hO dc (hM _ rfl) hd lkv hp hst hs ⟨X, rfl, hO.room⟩ (fun v h' hv => ?_)
    obtain ⟨hv1, hv2⟩ := hv
    rw [hv1, hv2]
    exact kk q r h hz
end SIMR
end
