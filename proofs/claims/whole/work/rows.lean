section
-- ===== PART A: goes FIRST, ahead of the names: the tables' words, and 'selects' of the private methods out of them =====
/-- a private method of a class that the tables say can be made, by its rows of tables_1 -/
def lw_okq (q : MethodName × Nat) : Prop := (q.1.cls ≠ "java/lang/invoke/MethodHandle" ∧ q.1.cls ≠ "java/lang/invoke/VarHandle") ∧ Cond.instantiable q.1.cls q.2 ∈ tables_1 ∧ Cond.privateMethod q.1 ∈ tables_1 ∧ Cond.instanceMethod q.1 ∈ tables_1
theorem lw_p0 : lw_okq (⟨"EveningPoach$TapeReader", "readToken", "()Z"⟩, 8) := ⟨⟨by decide +kernel, by decide +kernel⟩, List.mem_of_getElem? (i := 151) (by decide +kernel), List.mem_of_getElem? (i := 299) (by decide +kernel), List.mem_of_getElem? (i := 300) (by decide +kernel)⟩
theorem lw_p1 : lw_okq (⟨"EveningPoach$TapeReader", "placeBehindAll", "(III)I"⟩, 8) := ⟨⟨by decide +kernel, by decide +kernel⟩, List.mem_of_getElem? (i := 151) (by decide +kernel), List.mem_of_getElem? (i := 303) (by decide +kernel), List.mem_of_getElem? (i := 304) (by decide +kernel)⟩
theorem lw_p2 : lw_okq (⟨"EveningPoach$TapeReader", "takeFigures", "()Z"⟩, 8) := ⟨⟨by decide +kernel, by decide +kernel⟩, List.mem_of_getElem? (i := 151) (by decide +kernel), List.mem_of_getElem? (i := 311) (by decide +kernel), List.mem_of_getElem? (i := 312) (by decide +kernel)⟩
theorem lw_p3 : lw_okq (⟨"EveningPoach$TapeReader", "refuse", "(I)Z"⟩, 8) := ⟨⟨by decide +kernel, by decide +kernel⟩, List.mem_of_getElem? (i := 151) (by decide +kernel), List.mem_of_getElem? (i := 315) (by decide +kernel), List.mem_of_getElem? (i := 316) (by decide +kernel)⟩
theorem lw_p4 : lw_okq (⟨"EveningPoach$TapeReader", "readLine", "(LEveningPoach$Estate;)Z"⟩, 8) := ⟨⟨by decide +kernel, by decide +kernel⟩, List.mem_of_getElem? (i := 151) (by decide +kernel), List.mem_of_getElem? (i := 319) (by decide +kernel), List.mem_of_getElem? (i := 320) (by decide +kernel)⟩
theorem lw_p5 : lw_okq (⟨"EveningPoach$TapeReader", "isName", "(Ljava/lang/String;)Z"⟩, 8) := ⟨⟨by decide +kernel, by decide +kernel⟩, List.mem_of_getElem? (i := 151) (by decide +kernel), List.mem_of_getElem? (i := 330) (by decide +kernel), List.mem_of_getElem? (i := 331) (by decide +kernel)⟩
theorem lw_p6 : lw_okq (⟨"EveningPoach$TapeReader", "readTaker", "(LEveningPoach$Estate;I)Z"⟩, 8) := ⟨⟨by decide +kernel, by decide +kernel⟩, List.mem_of_getElem? (i := 151) (by decide +kernel), List.mem_of_getElem? (i := 382) (by decide +kernel), List.mem_of_getElem? (i := 383) (by decide +kernel)⟩
theorem lw_p7 : lw_okq (⟨"EveningPoach$TapeReader", "readNumber", "(II)Z"⟩, 8) := ⟨⟨by decide +kernel, by decide +kernel⟩, List.mem_of_getElem? (i := 151) (by decide +kernel), List.mem_of_getElem? (i := 386) (by decide +kernel), List.mem_of_getElem? (i := 387) (by decide +kernel)⟩
theorem lw_p8 : lw_okq (⟨"EveningPoach$TapeReader", "readSemicolonBehind", "()Z"⟩, 8) := ⟨⟨by decide +kernel, by decide +kernel⟩, List.mem_of_getElem? (i := 151) (by decide +kernel), List.mem_of_getElem? (i := 390) (by decide +kernel), List.mem_of_getElem? (i := 391) (by decide +kernel)⟩
theorem lw_p9 : lw_okq (⟨"EveningPoach$TapeReader", "readKeeper", "(LEveningPoach$Estate;)Z"⟩, 8) := ⟨⟨by decide +kernel, by decide +kernel⟩, List.mem_of_getElem? (i := 151) (by decide +kernel), List.mem_of_getElem? (i := 399) (by decide +kernel), List.mem_of_getElem? (i := 400) (by decide +kernel)⟩
theorem lw_p10 : lw_okq (⟨"EveningPoach$TapeReader", "readGate", "(LEveningPoach$Estate;)Z"⟩, 8) := ⟨⟨by decide +kernel, by decide +kernel⟩, List.mem_of_getElem? (i := 151) (by decide +kernel), List.mem_of_getElem? (i := 408) (by decide +kernel), List.mem_of_getElem? (i := 409) (by decide +kernel)⟩
theorem lw_p11 : lw_okq (⟨"EveningPoach", "isNoTaker", "(I)Z"⟩, 11) := ⟨⟨by decide +kernel, by decide +kernel⟩, List.mem_of_getElem? (i := 18) (by decide +kernel), List.mem_of_getElem? (i := 479) (by decide +kernel), List.mem_of_getElem? (i := 480) (by decide +kernel)⟩
theorem lw_p12 : lw_okq (⟨"EveningPoach", "isNoKeeper", "(I)Z"⟩, 11) := ⟨⟨by decide +kernel, by decide +kernel⟩, List.mem_of_getElem? (i := 18) (by decide +kernel), List.mem_of_getElem? (i := 494) (by decide +kernel), List.mem_of_getElem? (i := 495) (by decide +kernel)⟩
theorem lw_p13 : lw_okq (⟨"EveningPoach$Estate", "seize", "(I)V"⟩, 14) := ⟨⟨by decide +kernel, by decide +kernel⟩, List.mem_of_getElem? (i := 26) (by decide +kernel), List.mem_of_getElem? (i := 535) (by decide +kernel), List.mem_of_getElem? (i := 536) (by decide +kernel)⟩
theorem lw_p14 : lw_okq (⟨"EveningPoach$Estate", "fillBag", "(I)I"⟩, 14) := ⟨⟨by decide +kernel, by decide +kernel⟩, List.mem_of_getElem? (i := 26) (by decide +kernel), List.mem_of_getElem? (i := 542) (by decide +kernel), List.mem_of_getElem? (i := 543) (by decide +kernel)⟩
theorem lw_p15 : lw_okq (⟨"EveningPoach", "fullestBag", "(I[IIII)I"⟩, 11) := ⟨⟨by decide +kernel, by decide +kernel⟩, List.mem_of_getElem? (i := 18) (by decide +kernel), List.mem_of_getElem? (i := 595) (by decide +kernel), List.mem_of_getElem? (i := 596) (by decide +kernel)⟩
def lw_privs_1 : List (MethodName × Nat) := [(⟨"EveningPoach$TapeReader", "readToken", "()Z"⟩, 8), (⟨"EveningPoach$TapeReader", "placeBehindAll", "(III)I"⟩, 8), (⟨"EveningPoach$TapeReader", "takeFigures", "()Z"⟩, 8), (⟨"EveningPoach$TapeReader", "refuse", "(I)Z"⟩, 8), (⟨"EveningPoach$TapeReader", "readLine", "(LEveningPoach$Estate;)Z"⟩, 8), (⟨"EveningPoach$TapeReader", "isName", "(Ljava/lang/String;)Z"⟩, 8), (⟨"EveningPoach$TapeReader", "readTaker", "(LEveningPoach$Estate;I)Z"⟩, 8), (⟨"EveningPoach$TapeReader", "readNumber", "(II)Z"⟩, 8), (⟨"EveningPoach$TapeReader", "readSemicolonBehind", "()Z"⟩, 8), (⟨"EveningPoach$TapeReader", "readKeeper", "(LEveningPoach$Estate;)Z"⟩, 8), (⟨"EveningPoach$TapeReader", "readGate", "(LEveningPoach$Estate;)Z"⟩, 8), (⟨"EveningPoach", "isNoTaker", "(I)Z"⟩, 11), (⟨"EveningPoach", "isNoKeeper", "(I)Z"⟩, 11), (⟨"EveningPoach$Estate", "seize", "(I)V"⟩, 14), (⟨"EveningPoach$Estate", "fillBag", "(I)I"⟩, 14), (⟨"EveningPoach", "fullestBag", "(I[IIII)I"⟩, 11)]
theorem lw_r1 : ∀ q ∈ lw_privs_1, lw_okq q := List.forall_mem_cons.mpr ⟨lw_p0, List.forall_mem_cons.mpr ⟨lw_p1, List.forall_mem_cons.mpr ⟨lw_p2, List.forall_mem_cons.mpr ⟨lw_p3, List.forall_mem_cons.mpr ⟨lw_p4, List.forall_mem_cons.mpr ⟨lw_p5, List.forall_mem_cons.mpr ⟨lw_p6, List.forall_mem_cons.mpr ⟨lw_p7, List.forall_mem_cons.mpr ⟨lw_p8, List.forall_mem_cons.mpr ⟨lw_p9, List.forall_mem_cons.mpr ⟨lw_p10, List.forall_mem_cons.mpr ⟨lw_p11, List.forall_mem_cons.mpr ⟨lw_p12, List.forall_mem_cons.mpr ⟨lw_p13, List.forall_mem_cons.mpr ⟨lw_p14, List.forall_mem_cons.mpr ⟨lw_p15, fun _ h => absurd h List.not_mem_nil⟩⟩⟩⟩⟩⟩⟩⟩⟩⟩⟩⟩⟩⟩⟩⟩
theorem lw_p16 : lw_okq (⟨"EveningPoach", "takenInHazes", "(II)I"⟩, 11) := ⟨⟨by decide +kernel, by decide +kernel⟩, List.mem_of_getElem? (i := 18) (by decide +kernel), List.mem_of_getElem? (i := 646) (by decide +kernel), List.mem_of_getElem? (i := 647) (by decide +kernel)⟩
theorem lw_p17 : lw_okq (⟨"EveningPoach", "fittingBits", "(I[II)I"⟩, 11) := ⟨⟨by decide +kernel, by decide +kernel⟩, List.mem_of_getElem? (i := 18) (by decide +kernel), List.mem_of_getElem? (i := 666) (by decide +kernel), List.mem_of_getElem? (i := 667) (by decide +kernel)⟩
theorem lw_p18 : lw_okq (⟨"EveningPoach$Sightings", "latestNight", "()I"⟩, 4) := ⟨⟨by decide +kernel, by decide +kernel⟩, List.mem_of_getElem? (i := 184) (by decide +kernel), List.mem_of_getElem? (i := 674) (by decide +kernel), List.mem_of_getElem? (i := 675) (by decide +kernel)⟩
theorem lw_p19 : lw_okq (⟨"EveningPoach$Sightings", "fitBehind", "(ILEveningPoach$Estate;)Z"⟩, 4) := ⟨⟨by decide +kernel, by decide +kernel⟩, List.mem_of_getElem? (i := 184) (by decide +kernel), List.mem_of_getElem? (i := 681) (by decide +kernel), List.mem_of_getElem? (i := 682) (by decide +kernel)⟩
theorem lw_p20 : lw_okq (⟨"EveningPoach", "sendTaker", "(II)Z"⟩, 11) := ⟨⟨by decide +kernel, by decide +kernel⟩, List.mem_of_getElem? (i := 18) (by decide +kernel), List.mem_of_getElem? (i := 759) (by decide +kernel), List.mem_of_getElem? (i := 760) (by decide +kernel)⟩
theorem lw_p21 : lw_okq (⟨"EveningPoachModel", "step", "()V"⟩, 28) := ⟨⟨by decide +kernel, by decide +kernel⟩, List.mem_of_getElem? (i := 779) (by decide +kernel), List.mem_of_getElem? (i := 886) (by decide +kernel), List.mem_of_getElem? (i := 887) (by decide +kernel)⟩
theorem lw_p22 : lw_okq (⟨"EveningPoachModel", "byteAt", "(I)I"⟩, 28) := ⟨⟨by decide +kernel, by decide +kernel⟩, List.mem_of_getElem? (i := 779) (by decide +kernel), List.mem_of_getElem? (i := 890) (by decide +kernel), List.mem_of_getElem? (i := 891) (by decide +kernel)⟩
theorem lw_p23 : lw_okq (⟨"EveningPoachModel", "fails", "(I)V"⟩, 28) := ⟨⟨by decide +kernel, by decide +kernel⟩, List.mem_of_getElem? (i := 779) (by decide +kernel), List.mem_of_getElem? (i := 898) (by decide +kernel), List.mem_of_getElem? (i := 899) (by decide +kernel)⟩
theorem lw_p24 : lw_okq (⟨"EveningPoachModel", "readLine", "()V"⟩, 28) := ⟨⟨by decide +kernel, by decide +kernel⟩, List.mem_of_getElem? (i := 779) (by decide +kernel), List.mem_of_getElem? (i := 902) (by decide +kernel), List.mem_of_getElem? (i := 903) (by decide +kernel)⟩
theorem lw_p25 : lw_okq (⟨"EveningPoachModel", "nameHere", "()I"⟩, 28) := ⟨⟨by decide +kernel, by decide +kernel⟩, List.mem_of_getElem? (i := 779) (by decide +kernel), List.mem_of_getElem? (i := 906) (by decide +kernel), List.mem_of_getElem? (i := 907) (by decide +kernel)⟩
theorem lw_p26 : lw_okq (⟨"EveningPoachModel", "readMore", "(I)V"⟩, 28) := ⟨⟨by decide +kernel, by decide +kernel⟩, List.mem_of_getElem? (i := 779) (by decide +kernel), List.mem_of_getElem? (i := 911) (by decide +kernel), List.mem_of_getElem? (i := 912) (by decide +kernel)⟩
theorem lw_p27 : lw_okq (⟨"EveningPoachModel", "number", "(II)I"⟩, 28) := ⟨⟨by decide +kernel, by decide +kernel⟩, List.mem_of_getElem? (i := 779) (by decide +kernel), List.mem_of_getElem? (i := 915) (by decide +kernel), List.mem_of_getElem? (i := 916) (by decide +kernel)⟩
theorem lw_p28 : lw_okq (⟨"EveningPoachModel", "isHeardOn", "(II)Z"⟩, 28) := ⟨⟨by decide +kernel, by decide +kernel⟩, List.mem_of_getElem? (i := 779) (by decide +kernel), List.mem_of_getElem? (i := 927) (by decide +kernel), List.mem_of_getElem? (i := 928) (by decide +kernel)⟩
theorem lw_p29 : lw_okq (⟨"EveningPoachModel", "atOn", "(II)I"⟩, 28) := ⟨⟨by decide +kernel, by decide +kernel⟩, List.mem_of_getElem? (i := 779) (by decide +kernel), List.mem_of_getElem? (i := 931) (by decide +kernel), List.mem_of_getElem? (i := 932) (by decide +kernel)⟩
theorem lw_p30 : lw_okq (⟨"EveningPoachModel", "noiseOn", "(II)I"⟩, 28) := ⟨⟨by decide +kernel, by decide +kernel⟩, List.mem_of_getElem? (i := 779) (by decide +kernel), List.mem_of_getElem? (i := 935) (by decide +kernel), List.mem_of_getElem? (i := 936) (by decide +kernel)⟩
theorem lw_p31 : lw_okq (⟨"EveningPoachModel", "lightOn", "(I)I"⟩, 28) := ⟨⟨by decide +kernel, by decide +kernel⟩, List.mem_of_getElem? (i := 779) (by decide +kernel), List.mem_of_getElem? (i := 939) (by decide +kernel), List.mem_of_getElem? (i := 940) (by decide +kernel)⟩
def lw_privs_2 : List (MethodName × Nat) := [(⟨"EveningPoach", "takenInHazes", "(II)I"⟩, 11), (⟨"EveningPoach", "fittingBits", "(I[II)I"⟩, 11), (⟨"EveningPoach$Sightings", "latestNight", "()I"⟩, 4), (⟨"EveningPoach$Sightings", "fitBehind", "(ILEveningPoach$Estate;)Z"⟩, 4), (⟨"EveningPoach", "sendTaker", "(II)Z"⟩, 11), (⟨"EveningPoachModel", "step", "()V"⟩, 28), (⟨"EveningPoachModel", "byteAt", "(I)I"⟩, 28), (⟨"EveningPoachModel", "fails", "(I)V"⟩, 28), (⟨"EveningPoachModel", "readLine", "()V"⟩, 28), (⟨"EveningPoachModel", "nameHere", "()I"⟩, 28), (⟨"EveningPoachModel", "readMore", "(I)V"⟩, 28), (⟨"EveningPoachModel", "number", "(II)I"⟩, 28), (⟨"EveningPoachModel", "isHeardOn", "(II)Z"⟩, 28), (⟨"EveningPoachModel", "atOn", "(II)I"⟩, 28), (⟨"EveningPoachModel", "noiseOn", "(II)I"⟩, 28), (⟨"EveningPoachModel", "lightOn", "(I)I"⟩, 28)]
theorem lw_r2 : ∀ q ∈ lw_privs_2, lw_okq q := List.forall_mem_cons.mpr ⟨lw_p16, List.forall_mem_cons.mpr ⟨lw_p17, List.forall_mem_cons.mpr ⟨lw_p18, List.forall_mem_cons.mpr ⟨lw_p19, List.forall_mem_cons.mpr ⟨lw_p20, List.forall_mem_cons.mpr ⟨lw_p21, List.forall_mem_cons.mpr ⟨lw_p22, List.forall_mem_cons.mpr ⟨lw_p23, List.forall_mem_cons.mpr ⟨lw_p24, List.forall_mem_cons.mpr ⟨lw_p25, List.forall_mem_cons.mpr ⟨lw_p26, List.forall_mem_cons.mpr ⟨lw_p27, List.forall_mem_cons.mpr ⟨lw_p28, List.forall_mem_cons.mpr ⟨lw_p29, List.forall_mem_cons.mpr ⟨lw_p30, List.forall_mem_cons.mpr ⟨lw_p31, fun _ h => absurd h List.not_mem_nil⟩⟩⟩⟩⟩⟩⟩⟩⟩⟩⟩⟩⟩⟩⟩⟩
theorem lw_p32 : lw_okq (⟨"EveningPoachModel", "isTaker", "(I)Z"⟩, 28) := ⟨⟨by decide +kernel, by decide +kernel⟩, List.mem_of_getElem? (i := 779) (by decide +kernel), List.mem_of_getElem? (i := 955) (by decide +kernel), List.mem_of_getElem? (i := 956) (by decide +kernel)⟩
theorem lw_p33 : lw_okq (⟨"EveningPoachModel", "takesOn", "(II)I"⟩, 28) := ⟨⟨by decide +kernel, by decide +kernel⟩, List.mem_of_getElem? (i := 779) (by decide +kernel), List.mem_of_getElem? (i := 959) (by decide +kernel), List.mem_of_getElem? (i := 960) (by decide +kernel)⟩
theorem lw_p34 : lw_okq (⟨"EveningPoachModel", "isKeeper", "(I)Z"⟩, 28) := ⟨⟨by decide +kernel, by decide +kernel⟩, List.mem_of_getElem? (i := 779) (by decide +kernel), List.mem_of_getElem? (i := 967) (by decide +kernel), List.mem_of_getElem? (i := 968) (by decide +kernel)⟩
theorem lw_p35 : lw_okq (⟨"EveningPoachModel", "alters", "(III)I"⟩, 28) := ⟨⟨by decide +kernel, by decide +kernel⟩, List.mem_of_getElem? (i := 779) (by decide +kernel), List.mem_of_getElem? (i := 975) (by decide +kernel), List.mem_of_getElem? (i := 976) (by decide +kernel)⟩
theorem lw_p36 : lw_okq (⟨"EveningPoachModel", "puts", "(ZIII)I"⟩, 28) := ⟨⟨by decide +kernel, by decide +kernel⟩, List.mem_of_getElem? (i := 779) (by decide +kernel), List.mem_of_getElem? (i := 980) (by decide +kernel), List.mem_of_getElem? (i := 981) (by decide +kernel)⟩
theorem lw_p37 : lw_okq (⟨"EveningPoachModel", "hiresOn", "(IIII)V"⟩, 28) := ⟨⟨by decide +kernel, by decide +kernel⟩, List.mem_of_getElem? (i := 779) (by decide +kernel), List.mem_of_getElem? (i := 1002) (by decide +kernel), List.mem_of_getElem? (i := 1003) (by decide +kernel)⟩
theorem lw_p38 : lw_okq (⟨"EveningPoachModel", "startCounts", "()V"⟩, 28) := ⟨⟨by decide +kernel, by decide +kernel⟩, List.mem_of_getElem? (i := 779) (by decide +kernel), List.mem_of_getElem? (i := 1015) (by decide +kernel), List.mem_of_getElem? (i := 1016) (by decide +kernel)⟩
theorem lw_p39 : lw_okq (⟨"EveningPoachModel", "nightOn", "(IZ)V"⟩, 28) := ⟨⟨by decide +kernel, by decide +kernel⟩, List.mem_of_getElem? (i := 779) (by decide +kernel), List.mem_of_getElem? (i := 1019) (by decide +kernel), List.mem_of_getElem? (i := 1020) (by decide +kernel)⟩
theorem lw_p40 : lw_okq (⟨"EveningPoachModel", "goesIn", "(IIZ)V"⟩, 28) := ⟨⟨by decide +kernel, by decide +kernel⟩, List.mem_of_getElem? (i := 779) (by decide +kernel), List.mem_of_getElem? (i := 1023) (by decide +kernel), List.mem_of_getElem? (i := 1024) (by decide +kernel)⟩
theorem lw_p41 : lw_okq (⟨"EveningPoachModel", "nightsGo", "(II)I"⟩, 28) := ⟨⟨by decide +kernel, by decide +kernel⟩, List.mem_of_getElem? (i := 779) (by decide +kernel), List.mem_of_getElem? (i := 1032) (by decide +kernel), List.mem_of_getElem? (i := 1033) (by decide +kernel)⟩
theorem lw_p42 : lw_okq (⟨"EveningPoachModel", "copies", "(II)V"⟩, 28) := ⟨⟨by decide +kernel, by decide +kernel⟩, List.mem_of_getElem? (i := 779) (by decide +kernel), List.mem_of_getElem? (i := 1036) (by decide +kernel), List.mem_of_getElem? (i := 1037) (by decide +kernel)⟩
theorem lw_p43 : lw_okq (⟨"EveningPoachModel", "byHaze", "(IIII)J"⟩, 28) := ⟨⟨by decide +kernel, by decide +kernel⟩, List.mem_of_getElem? (i := 779) (by decide +kernel), List.mem_of_getElem? (i := 1087) (by decide +kernel), List.mem_of_getElem? (i := 1088) (by decide +kernel)⟩
theorem lw_p44 : lw_okq (⟨"EveningPoachModel", "isAsSeen", "(I)Z"⟩, 28) := ⟨⟨by decide +kernel, by decide +kernel⟩, List.mem_of_getElem? (i := 779) (by decide +kernel), List.mem_of_getElem? (i := 1112) (by decide +kernel), List.mem_of_getElem? (i := 1113) (by decide +kernel)⟩
theorem lw_p45 : lw_okq (⟨"EveningPoachModel", "gatesOf", "(I)I"⟩, 28) := ⟨⟨by decide +kernel, by decide +kernel⟩, List.mem_of_getElem? (i := 779) (by decide +kernel), List.mem_of_getElem? (i := 1120) (by decide +kernel), List.mem_of_getElem? (i := 1121) (by decide +kernel)⟩
theorem lw_p46 : lw_okq (⟨"EveningPoachModel", "worstAt", "(II)I"⟩, 28) := ⟨⟨by decide +kernel, by decide +kernel⟩, List.mem_of_getElem? (i := 779) (by decide +kernel), List.mem_of_getElem? (i := 1128) (by decide +kernel), List.mem_of_getElem? (i := 1129) (by decide +kernel)⟩
def lw_privs_3 : List (MethodName × Nat) := [(⟨"EveningPoachModel", "isTaker", "(I)Z"⟩, 28), (⟨"EveningPoachModel", "takesOn", "(II)I"⟩, 28), (⟨"EveningPoachModel", "isKeeper", "(I)Z"⟩, 28), (⟨"EveningPoachModel", "alters", "(III)I"⟩, 28), (⟨"EveningPoachModel", "puts", "(ZIII)I"⟩, 28), (⟨"EveningPoachModel", "hiresOn", "(IIII)V"⟩, 28), (⟨"EveningPoachModel", "startCounts", "()V"⟩, 28), (⟨"EveningPoachModel", "nightOn", "(IZ)V"⟩, 28), (⟨"EveningPoachModel", "goesIn", "(IIZ)V"⟩, 28), (⟨"EveningPoachModel", "nightsGo", "(II)I"⟩, 28), (⟨"EveningPoachModel", "copies", "(II)V"⟩, 28), (⟨"EveningPoachModel", "byHaze", "(IIII)J"⟩, 28), (⟨"EveningPoachModel", "isAsSeen", "(I)Z"⟩, 28), (⟨"EveningPoachModel", "gatesOf", "(I)I"⟩, 28), (⟨"EveningPoachModel", "worstAt", "(II)I"⟩, 28)]
theorem lw_r3 : ∀ q ∈ lw_privs_3, lw_okq q := List.forall_mem_cons.mpr ⟨lw_p32, List.forall_mem_cons.mpr ⟨lw_p33, List.forall_mem_cons.mpr ⟨lw_p34, List.forall_mem_cons.mpr ⟨lw_p35, List.forall_mem_cons.mpr ⟨lw_p36, List.forall_mem_cons.mpr ⟨lw_p37, List.forall_mem_cons.mpr ⟨lw_p38, List.forall_mem_cons.mpr ⟨lw_p39, List.forall_mem_cons.mpr ⟨lw_p40, List.forall_mem_cons.mpr ⟨lw_p41, List.forall_mem_cons.mpr ⟨lw_p42, List.forall_mem_cons.mpr ⟨lw_p43, List.forall_mem_cons.mpr ⟨lw_p44, List.forall_mem_cons.mpr ⟨lw_p45, List.forall_mem_cons.mpr ⟨lw_p46, fun _ h => absurd h List.not_mem_nil⟩⟩⟩⟩⟩⟩⟩⟩⟩⟩⟩⟩⟩⟩⟩
def lw_privs : List (MethodName × Nat) := lw_privs_1 ++ (lw_privs_2 ++ (lw_privs_3))
def lw_tbl : List Cond := k2_sels lw_privs ++ tables_1
theorem lw_privs_ok : ∀ q ∈ lw_privs, lw_okq q := by
  show ∀ q ∈ lw_privs_1 ++ (lw_privs_2 ++ (lw_privs_3)), lw_okq q
  exact List.forall_mem_append.mpr ⟨lw_r1, List.forall_mem_append.mpr ⟨lw_r2, lw_r3⟩⟩
end
section
/-! ===== BEGIN words of one list among another's, by their places ===== -/
theorem goodIn_r {big : List Cond} (ws : List Cond) (ps : List Nat) (hp : ws = ps.filterMap (fun i => big[i]?)) (h : ws.all goodWord = true) : GoodIn big ws := by
  intro w hw
  have h1 := List.all_eq_true.mp h w hw
  rw [hp] at hw
  obtain ⟨i, -, hi⟩ := List.mem_filterMap.mp hw
  have hm : w ∈ big := by first | exact List.mem_of_getElem? hi | exact List.getElem?_mem hi
  exact ⟨hm, good_of_word h1⟩
theorem goodIn_app {big a b : List Cond} (ha : GoodIn big a) (hb : GoodIn big b) : GoodIn big (a ++ b) := fun w h => (List.mem_append.mp h).elim (ha w) (hb w)
theorem goodIn_ca {big a b : List Cond} {c : Cond} (ha : GoodIn big (c :: a)) (hb : GoodIn big b) : GoodIn big (c :: (a ++ b)) := fun w h => (List.mem_cons.mp h).elim (fun e => ha w (List.mem_cons.mpr (Or.inl e))) (fun h => (List.mem_append.mp h).elim (fun h => ha w (List.mem_cons.mpr (Or.inr h))) (hb w))
theorem goodIn_sub {big ws : List Cond} (hm : ∀ w ∈ ws, w ∈ big) (h : ws.all goodWord = true) : GoodIn big ws := fun w hw => ⟨hm w hw, good_of_word (List.all_eq_true.mp h w hw)⟩
/-! ===== END ===== -/


/-! ===== BEGIN printed: names, fields, word lists, decode rows ===== -/
def RX0 : String := "EveningPoach$Estate"
def TX0 : u_T := fun k => match k with
  | 0 => ("EveningPoach$Estate", "light", "[I", true)
  | 1 => ("EveningPoach$Estate", "growth", "[I", true)
  | 2 => ("EveningPoach$Estate", "kindOf", "[I", true)
  | 3 => ("EveningPoach$Estate", "gateOf", "[I", true)
  | 4 => ("EveningPoach$Estate", "bag", "[I", true)
  | 5 => ("EveningPoach$Estate", "held", "[I", true)
  | 6 => ("EveningPoach$Estate", "start", "[I", true)
  | 7 => ("EveningPoach$Estate", "step", "[I", true)
  | 8 => ("EveningPoach$Estate", "ear", "[I", true)
  | 9 => ("EveningPoach$Estate", "takers", "I", false)
  | 10 => ("EveningPoach$Estate", "keepers", "I", false)
  | 11 => ("EveningPoach$Estate", "night", "I", false)
  | 12 => ("EveningPoach$Estate", "catches", "I", false)
  | _ => ("EveningPoach$Estate", "latestCaughtBits", "I", false)
def tyX0 : Nat → FieldType := fun k => match k with
  | 0 => .array .int
  | 1 => .array .int
  | 2 => .array .int
  | 3 => .array .int
  | 4 => .array .int
  | 5 => .array .int
  | 6 => .array .int
  | 7 => .array .int
  | 8 => .array .int
  | 9 => .int
  | 10 => .int
  | 11 => .int
  | 12 => .int
  | _ => .int
abbrev wsX00 : List Cond := u_ws RX0 TX0 14
theorem nmX0 : ∀ a, a < 14 → ∀ b, b < 14 → a ≠ b → (TX0 a).2.1 ≠ (TX0 b).2.1 := by decide +kernel
theorem tyX0_ok : ∀ k, k < 14 → parseFieldDescriptor (TX0 k).2.2.1 = some (tyX0 k) := by decide +kernel
abbrev cX0_init : ByteArray := prog_2_method_1_code
def yX0_init : MethodName := ⟨RX0, "<init>", "()V"⟩
abbrev cX0_clear : ByteArray := prog_2_method_2_code
def yX0_clear : MethodName := ⟨RX0, "clear", "()V"⟩
abbrev cX0_copyFrom : ByteArray := prog_2_method_3_code
def yX0_copyFrom : MethodName := ⟨RX0, "copyFrom", "(LEveningPoach$Estate;)V"⟩
abbrev cX0_addTaker : ByteArray := prog_2_method_4_code
def yX0_addTaker : MethodName := ⟨RX0, "addTaker", "(II)Z"⟩
abbrev cX0_addKeeper : ByteArray := prog_2_method_5_code
def yX0_addKeeper : MethodName := ⟨RX0, "addKeeper", "(III)Z"⟩
abbrev cX0_takes : ByteArray := prog_2_method_6_code
def yX0_takes : MethodName := ⟨RX0, "takes", "(I)I"⟩
abbrev cX0_noise : ByteArray := prog_2_method_7_code
def yX0_noise : MethodName := ⟨RX0, "noise", "(I)I"⟩
abbrev cX0_placeOf : ByteArray := prog_2_method_8_code
def yX0_placeOf : MethodName := ⟨RX0, "placeOf", "(I)I"⟩
abbrev cX0_wouldBeCaught : ByteArray := prog_2_method_9_code
def yX0_wouldBeCaught : MethodName := ⟨RX0, "wouldBeCaught", "(I)Z"⟩
abbrev cX0_passNight : ByteArray := prog_2_method_10_code
def yX0_passNight : MethodName := ⟨RX0, "passNight", "(Z)I"⟩
abbrev cX0_seize : ByteArray := prog_2_method_11_code
def yX0_seize : MethodName := ⟨RX0, "seize", "(I)V"⟩
abbrev cX0_fillBag : ByteArray := prog_2_method_12_code
def yX0_fillBag : MethodName := ⟨RX0, "fillBag", "(I)I"⟩
abbrev cX0_lightOfAll : ByteArray := prog_2_method_13_code
def yX0_lightOfAll : MethodName := ⟨RX0, "lightOfAll", "()I"⟩
abbrev cX0_growthOfAll : ByteArray := prog_2_method_14_code
def yX0_growthOfAll : MethodName := ⟨RX0, "growthOfAll", "()I"⟩
abbrev cX0_bagsOfAll : ByteArray := prog_2_method_15_code
def yX0_bagsOfAll : MethodName := ⟨RX0, "bagsOfAll", "()I"⟩
abbrev cX0_earsOfAll : ByteArray := prog_2_method_16_code
def yX0_earsOfAll : MethodName := ⟨RX0, "earsOfAll", "()I"⟩
abbrev cX0_sum : ByteArray := prog_2_method_17_code
def yX0_sum : MethodName := ⟨RX0, "sum", "([II)I"⟩
abbrev cX0_heldBits : ByteArray := prog_2_method_18_code
def yX0_heldBits : MethodName := ⟨RX0, "heldBits", "()I"⟩
abbrev cX0_nextCaughtBits : ByteArray := prog_2_method_19_code
def yX0_nextCaughtBits : MethodName := ⟨RX0, "nextCaughtBits", "()I"⟩
abbrev cX0_takerBitsAt : ByteArray := prog_2_method_20_code
def yX0_takerBitsAt : MethodName := ⟨RX0, "takerBitsAt", "(I)I"⟩
abbrev cX0_keeperBitsAt : ByteArray := prog_2_method_21_code
def yX0_keeperBitsAt : MethodName := ⟨RX0, "keeperBitsAt", "(I)I"⟩
def RX1 : String := "EveningPoach$Outlook"
def TX1 : u_T := fun k => match k with
  | 0 => ("EveningPoach$Outlook", "light", "[[I", true)
  | _ => ("EveningPoach$Outlook", "count", "I", false)
def tyX1 : Nat → FieldType := fun k => match k with
  | 0 => .array (.array .int)
  | _ => .int
abbrev wsX10 : List Cond := u_ws RX1 TX1 2
theorem nmX1 : ∀ a, a < 2 → ∀ b, b < 2 → a ≠ b → (TX1 a).2.1 ≠ (TX1 b).2.1 := by decide +kernel
theorem tyX1_ok : ∀ k, k < 2 → parseFieldDescriptor (TX1 k).2.2.1 = some (tyX1 k) := by decide +kernel
abbrev cX1_init : ByteArray := prog_3_method_1_code
def yX1_init : MethodName := ⟨RX1, "<init>", "()V"⟩
abbrev cX1_clear : ByteArray := prog_3_method_2_code
def yX1_clear : MethodName := ⟨RX1, "clear", "()V"⟩
abbrev cX1_add : ByteArray := prog_3_method_3_code
def yX1_add : MethodName := ⟨RX1, "add", "(LEveningPoach$Trial;)V"⟩
abbrev cX1_leftAtWorst : ByteArray := prog_3_method_4_code
def yX1_leftAtWorst : MethodName := ⟨RX1, "leftAtWorst", "(II)I"⟩
def RX2 : String := "EveningPoach$Sheet"
def TX2 : u_T := fun k => match k with
  | 0 => ("EveningPoach$Sheet", "cells", "[I", true)
  | 1 => ("EveningPoach$Sheet", "size", "I", false)
  | _ => ("EveningPoach$Sheet", "lane", "I", false)
def tyX2 : Nat → FieldType := fun k => match k with
  | 0 => .array .int
  | 1 => .int
  | _ => .int
abbrev wsX20 : List Cond := u_ws RX2 TX2 3
theorem nmX2 : ∀ a, a < 3 → ∀ b, b < 3 → a ≠ b → (TX2 a).2.1 ≠ (TX2 b).2.1 := by decide +kernel
theorem tyX2_ok : ∀ k, k < 3 → parseFieldDescriptor (TX2 k).2.2.1 = some (tyX2 k) := by decide +kernel
abbrev cX2_init : ByteArray := prog_4_method_1_code
def yX2_init : MethodName := ⟨RX2, "<init>", "()V"⟩
abbrev cX2_isNothing : ByteArray := prog_4_method_2_code
def yX2_isNothing : MethodName := ⟨RX2, "isNothing", "()Z"⟩
abbrev cX2_renew : ByteArray := prog_4_method_3_code
def yX2_renew : MethodName := ⟨RX2, "renew", "(II)V"⟩
abbrev cX2_lacks : ByteArray := prog_4_method_4_code
def yX2_lacks : MethodName := ⟨RX2, "lacks", "(I)Z"⟩
abbrev cX2_put : ByteArray := prog_4_method_5_code
def yX2_put : MethodName := ⟨RX2, "put", "(II)Z"⟩
abbrev cX2_faultAs : ByteArray := prog_4_method_6_code
def yX2_faultAs : MethodName := ⟨RX2, "faultAs", "(I)I"⟩
def RX3 : String := "EveningPoach$Sightings"
def TX3 : u_T := fun k => match k with
  | 0 => ("EveningPoach$Sightings", "night", "[I", true)
  | 1 => ("EveningPoach$Sightings", "place", "[I", true)
  | 2 => ("EveningPoach$Sightings", "light", "[I", true)
  | _ => ("EveningPoach$Sightings", "count", "I", false)
def tyX3 : Nat → FieldType := fun k => match k with
  | 0 => .array .int
  | 1 => .array .int
  | 2 => .array .int
  | _ => .int
abbrev wsX30 : List Cond := u_ws RX3 TX3 4
theorem nmX3 : ∀ a, a < 4 → ∀ b, b < 4 → a ≠ b → (TX3 a).2.1 ≠ (TX3 b).2.1 := by decide +kernel
theorem tyX3_ok : ∀ k, k < 4 → parseFieldDescriptor (TX3 k).2.2.1 = some (tyX3 k) := by decide +kernel
abbrev cX3_init : ByteArray := prog_5_method_1_code
def yX3_init : MethodName := ⟨RX3, "<init>", "()V"⟩
abbrev cX3_add : ByteArray := prog_5_method_2_code
def yX3_add : MethodName := ⟨RX3, "add", "(III)Z"⟩
abbrev cX3_fit : ByteArray := prog_5_method_3_code
def yX3_fit : MethodName := ⟨RX3, "fit", "(LEveningPoach$Trial;)Z"⟩
abbrev cX3_latestNight : ByteArray := prog_5_method_4_code
def yX3_latestNight : MethodName := ⟨RX3, "latestNight", "()I"⟩
abbrev cX3_fitBehind : ByteArray := prog_5_method_5_code
def yX3_fitBehind : MethodName := ⟨RX3, "fitBehind", "(ILEveningPoach$Estate;)Z"⟩
def RX4 : String := "EveningPoach$Tape"
def TX4 : u_T := fun k => match k with
  | 0 => ("EveningPoach$Tape", "bytes", "[B", true)
  | _ => ("EveningPoach$Tape", "length", "I", false)
def tyX4 : Nat → FieldType := fun k => match k with
  | 0 => .array .byte
  | _ => .int
abbrev wsX40 : List Cond := u_ws RX4 TX4 2
theorem nmX4 : ∀ a, a < 2 → ∀ b, b < 2 → a ≠ b → (TX4 a).2.1 ≠ (TX4 b).2.1 := by decide +kernel
theorem tyX4_ok : ∀ k, k < 2 → parseFieldDescriptor (TX4 k).2.2.1 = some (tyX4 k) := by decide +kernel
abbrev cX4_init : ByteArray := prog_6_method_1_code
def yX4_init : MethodName := ⟨RX4, "<init>", "()V"⟩
abbrev cX4_append : ByteArray := prog_6_method_2_code
def yX4_append : MethodName := ⟨RX4, "append", "(I)Z"⟩
abbrev cX4_isBetween : ByteArray := prog_6_method_3_code
def yX4_isBetween : MethodName := ⟨RX4, "isBetween", "(III)Z"⟩
def RX5 : String := "EveningPoach$TapeReader"
def TX5 : u_T := fun k => match k with
  | 0 => ("EveningPoach$TapeReader", "tape", "LEveningPoach$Tape;", true)
  | 1 => ("EveningPoach$TapeReader", "sort", "I", false)
  | 2 => ("EveningPoach$TapeReader", "first", "I", false)
  | 3 => ("EveningPoach$TapeReader", "behind", "I", false)
  | 4 => ("EveningPoach$TapeReader", "number", "I", false)
  | 5 => ("EveningPoach$TapeReader", "gatesTold", "I", false)
  | 6 => ("EveningPoach$TapeReader", "fault", "I", false)
  | _ => ("EveningPoach$TapeReader", "faultPlace", "I", false)
def tyX5 : Nat → FieldType := fun k => match k with
  | 0 => .object "EveningPoach$Tape"
  | 1 => .int
  | 2 => .int
  | 3 => .int
  | 4 => .int
  | 5 => .int
  | 6 => .int
  | _ => .int
abbrev wsX50 : List Cond := u_ws RX5 TX5 8
theorem nmX5 : ∀ a, a < 8 → ∀ b, b < 8 → a ≠ b → (TX5 a).2.1 ≠ (TX5 b).2.1 := by decide +kernel
theorem tyX5_ok : ∀ k, k < 8 → parseFieldDescriptor (TX5 k).2.2.1 = some (tyX5 k) := by decide +kernel
abbrev cX5_init : ByteArray := prog_7_method_1_code
def yX5_init : MethodName := ⟨RX5, "<init>", "(LEveningPoach$Tape;)V"⟩
abbrev cX5_readLines : ByteArray := prog_7_method_2_code
def yX5_readLines : MethodName := ⟨RX5, "readLines", "(LEveningPoach$Estate;)I"⟩
abbrev cX5_readLine : ByteArray := prog_7_method_3_code
def yX5_readLine : MethodName := ⟨RX5, "readLine", "(LEveningPoach$Estate;)Z"⟩
abbrev cX5_readTaker : ByteArray := prog_7_method_4_code
def yX5_readTaker : MethodName := ⟨RX5, "readTaker", "(LEveningPoach$Estate;I)Z"⟩
abbrev cX5_readKeeper : ByteArray := prog_7_method_5_code
def yX5_readKeeper : MethodName := ⟨RX5, "readKeeper", "(LEveningPoach$Estate;)Z"⟩
abbrev cX5_readGate : ByteArray := prog_7_method_6_code
def yX5_readGate : MethodName := ⟨RX5, "readGate", "(LEveningPoach$Estate;)Z"⟩
abbrev cX5_readNumber : ByteArray := prog_7_method_7_code
def yX5_readNumber : MethodName := ⟨RX5, "readNumber", "(II)Z"⟩
abbrev cX5_readSemicolonBehind : ByteArray := prog_7_method_8_code
def yX5_readSemicolonBehind : MethodName := ⟨RX5, "readSemicolonBehind", "()Z"⟩
abbrev cX5_readToken : ByteArray := prog_7_method_9_code
def yX5_readToken : MethodName := ⟨RX5, "readToken", "()Z"⟩
abbrev cX5_placeBehindAll : ByteArray := prog_7_method_10_code
def yX5_placeBehindAll : MethodName := ⟨RX5, "placeBehindAll", "(III)I"⟩
abbrev cX5_takeFigures : ByteArray := prog_7_method_11_code
def yX5_takeFigures : MethodName := ⟨RX5, "takeFigures", "()Z"⟩
abbrev cX5_isName : ByteArray := prog_7_method_12_code
def yX5_isName : MethodName := ⟨RX5, "isName", "(Ljava/lang/String;)Z"⟩
abbrev cX5_nameOfKind : ByteArray := prog_7_method_13_code
def yX5_nameOfKind : MethodName := ⟨RX5, "nameOfKind", "(I)Ljava/lang/String;"⟩
abbrev cX5_refuse : ByteArray := prog_7_method_14_code
def yX5_refuse : MethodName := ⟨RX5, "refuse", "(I)Z"⟩
def RX6 : String := "EveningPoach$Trial"
def TX6 : u_T := fun k => match k with
  | 0 => ("EveningPoach$Trial", "estate", "LEveningPoach$Estate;", true)
  | 1 => ("EveningPoach$Trial", "gone", "I", false)
  | 2 => ("EveningPoach$Trial", "taken", "I", false)
  | 3 => ("EveningPoach$Trial", "caughtTimes", "I", false)
  | 4 => ("EveningPoach$Trial", "caughtBits", "I", false)
  | _ => ("EveningPoach$Trial", "firstCaught", "I", false)
def tyX6 : Nat → FieldType := fun k => match k with
  | 0 => .object "EveningPoach$Estate"
  | 1 => .int
  | 2 => .int
  | 3 => .int
  | 4 => .int
  | _ => .int
abbrev wsX60 : List Cond := u_ws RX6 TX6 6
theorem nmX6 : ∀ a, a < 6 → ∀ b, b < 6 → a ≠ b → (TX6 a).2.1 ≠ (TX6 b).2.1 := by decide +kernel
theorem tyX6_ok : ∀ k, k < 6 → parseFieldDescriptor (TX6 k).2.2.1 = some (tyX6 k) := by decide +kernel
abbrev cX6_init : ByteArray := prog_8_method_1_code
def yX6_init : MethodName := ⟨RX6, "<init>", "()V"⟩
abbrev cX6_begin : ByteArray := prog_8_method_2_code
def yX6_begin : MethodName := ⟨RX6, "begin", "(LEveningPoach$Estate;)V"⟩
abbrev cX6_pass : ByteArray := prog_8_method_3_code
def yX6_pass : MethodName := ⟨RX6, "pass", "(I)V"⟩
abbrev cX6_passOne : ByteArray := prog_8_method_4_code
def yX6_passOne : MethodName := ⟨RX6, "passOne", "(Z)V"⟩
abbrev cX6_wasCaught : ByteArray := prog_8_method_5_code
def yX6_wasCaught : MethodName := ⟨RX6, "wasCaught", "(I)Z"⟩
def RX7 : String := "EveningPoach"
def TX7 : u_T := fun k => match k with
  | 0 => ("EveningPoach", "now", "LEveningPoach$Estate;", true)
  | 1 => ("EveningPoach", "trial", "LEveningPoach$Trial;", true)
  | 2 => ("EveningPoach", "tape", "LEveningPoach$Tape;", true)
  | 3 => ("EveningPoach", "reader", "LEveningPoach$TapeReader;", true)
  | 4 => ("EveningPoach", "seen", "LEveningPoach$Sightings;", true)
  | 5 => ("EveningPoach", "outlook", "LEveningPoach$Outlook;", true)
  | 6 => ("EveningPoach", "images", "[LEveningPoach$Estate;", true)
  | 7 => ("EveningPoach", "imageKept", "[Z", true)
  | 8 => ("EveningPoach", "sheets", "[LEveningPoach$Sheet;", true)
  | 9 => ("EveningPoach", "textFault", "I", false)
  | _ => ("EveningPoach", "readFault", "I", false)
def tyX7 : Nat → FieldType := fun k => match k with
  | 0 => .object "EveningPoach$Estate"
  | 1 => .object "EveningPoach$Trial"
  | 2 => .object "EveningPoach$Tape"
  | 3 => .object "EveningPoach$TapeReader"
  | 4 => .object "EveningPoach$Sightings"
  | 5 => .object "EveningPoach$Outlook"
  | 6 => .array (.object "EveningPoach$Estate")
  | 7 => .array .boolean
  | 8 => .array (.object "EveningPoach$Sheet")
  | 9 => .int
  | _ => .int
abbrev wsX70 : List Cond := u_ws RX7 TX7 11
theorem nmX7 : ∀ a, a < 11 → ∀ b, b < 11 → a ≠ b → (TX7 a).2.1 ≠ (TX7 b).2.1 := by decide +kernel
theorem tyX7_ok : ∀ k, k < 11 → parseFieldDescriptor (TX7 k).2.2.1 = some (tyX7 k) := by decide +kernel
abbrev cX7_init : ByteArray := prog_1_method_1_code
def yX7_init : MethodName := ⟨RX7, "<init>", "()V"⟩
abbrev cX7_feed : ByteArray := prog_1_method_2_code
def yX7_feed : MethodName := ⟨RX7, "feed", "(I)I"⟩
abbrev cX7_end : ByteArray := prog_1_method_3_code
def yX7_end : MethodName := ⟨RX7, "end", "(I)I"⟩
abbrev cX7_text : ByteArray := prog_1_method_4_code
def yX7_text : MethodName := ⟨RX7, "text", "()I"⟩
abbrev cX7_fault : ByteArray := prog_1_method_5_code
def yX7_fault : MethodName := ⟨RX7, "fault", "()I"⟩
abbrev cX7_rule : ByteArray := prog_1_method_6_code
def yX7_rule : MethodName := ⟨RX7, "rule", "(I)I"⟩
abbrev cX7_gate : ByteArray := prog_1_method_7_code
def yX7_gate : MethodName := ⟨RX7, "gate", "(II)I"⟩
abbrev cX7_taker : ByteArray := prog_1_method_8_code
def yX7_taker : MethodName := ⟨RX7, "taker", "(II)I"⟩
abbrev cX7_keeper : ByteArray := prog_1_method_9_code
def yX7_keeper : MethodName := ⟨RX7, "keeper", "(II)I"⟩
abbrev cX7_alter : ByteArray := prog_1_method_10_code
def yX7_alter : MethodName := ⟨RX7, "alter", "(III)I"⟩
abbrev cX7_order : ByteArray := prog_1_method_11_code
def yX7_order : MethodName := ⟨RX7, "order", "(III)I"⟩
abbrev cX7_tend : ByteArray := prog_1_method_12_code
def yX7_tend : MethodName := ⟨RX7, "tend", "(III)I"⟩
abbrev cX7_free : ByteArray := prog_1_method_13_code
def yX7_free : MethodName := ⟨RX7, "free", "(I)I"⟩
abbrev cX7_hire : ByteArray := prog_1_method_14_code
def yX7_hire : MethodName := ⟨RX7, "hire", "(III)I"⟩
abbrev cX7_dismiss : ByteArray := prog_1_method_15_code
def yX7_dismiss : MethodName := ⟨RX7, "dismiss", "(I)I"⟩
abbrev cX7_nights : ByteArray := prog_1_method_16_code
def yX7_nights : MethodName := ⟨RX7, "nights", "(I)I"⟩
abbrev cX7_runs : ByteArray := prog_1_method_17_code
def yX7_runs : MethodName := ⟨RX7, "runs", "(II)I"⟩
abbrev cX7_ahead : ByteArray := prog_1_method_18_code
def yX7_ahead : MethodName := ⟨RX7, "ahead", "(III)I"⟩
abbrev cX7_glow : ByteArray := prog_1_method_19_code
def yX7_glow : MethodName := ⟨RX7, "glow", "(II)I"⟩
abbrev cX7_caught : ByteArray := prog_1_method_20_code
def yX7_caught : MethodName := ⟨RX7, "caught", "(I)I"⟩
abbrev cX7_best : ByteArray := prog_1_method_21_code
def yX7_best : MethodName := ⟨RX7, "best", "(III)I"⟩
abbrev cX7_ripen : ByteArray := prog_1_method_22_code
def yX7_ripen : MethodName := ⟨RX7, "ripen", "(III)I"⟩
abbrev cX7_swap : ByteArray := prog_1_method_23_code
def yX7_swap : MethodName := ⟨RX7, "swap", "(II)I"⟩
abbrev cX7_round : ByteArray := prog_1_method_24_code
def yX7_round : MethodName := ⟨RX7, "round", "(III)I"⟩
abbrev cX7_post : ByteArray := prog_1_method_25_code
def yX7_post : MethodName := ⟨RX7, "post", "(III)I"⟩
abbrev cX7_kind : ByteArray := prog_1_method_26_code
def yX7_kind : MethodName := ⟨RX7, "kind", "(III)I"⟩
abbrev cX7_sharp : ByteArray := prog_1_method_27_code
def yX7_sharp : MethodName := ⟨RX7, "sharp", "(III)I"⟩
abbrev cX7_luck : ByteArray := prog_1_method_28_code
def yX7_luck : MethodName := ⟨RX7, "luck", "(IIII)J"⟩
abbrev cX7_mean : ByteArray := prog_1_method_29_code
def yX7_mean : MethodName := ⟨RX7, "mean", "(III)J"⟩
abbrev cX7_see : ByteArray := prog_1_method_30_code
def yX7_see : MethodName := ⟨RX7, "see", "(III)I"⟩
abbrev cX7_forget : ByteArray := prog_1_method_31_code
def yX7_forget : MethodName := ⟨RX7, "forget", "(I)I"⟩
abbrev cX7_kinds : ByteArray := prog_1_method_32_code
def yX7_kinds : MethodName := ⟨RX7, "kinds", "(I)I"⟩
abbrev cX7_gates : ByteArray := prog_1_method_33_code
def yX7_gates : MethodName := ⟨RX7, "gates", "(I)I"⟩
abbrev cX7_ask : ByteArray := prog_1_method_34_code
def yX7_ask : MethodName := ⟨RX7, "ask", "(II)I"⟩
abbrev cX7_drift : ByteArray := prog_1_method_35_code
def yX7_drift : MethodName := ⟨RX7, "drift", "(III)I"⟩
abbrev cX7_keep : ByteArray := prog_1_method_36_code
def yX7_keep : MethodName := ⟨RX7, "keep", "(I)I"⟩
abbrev cX7_back : ByteArray := prog_1_method_37_code
def yX7_back : MethodName := ⟨RX7, "back", "(I)I"⟩
abbrev cX7_sheet : ByteArray := prog_1_method_38_code
def yX7_sheet : MethodName := ⟨RX7, "sheet", "(III)I"⟩
abbrev cX7_lay : ByteArray := prog_1_method_39_code
def yX7_lay : MethodName := ⟨RX7, "lay", "(III)I"⟩
abbrev cX7_read : ByteArray := prog_1_method_40_code
def yX7_read : MethodName := ⟨RX7, "read", "(IIII)I"⟩
abbrev cX7_torn : ByteArray := prog_1_method_41_code
def yX7_torn : MethodName := ⟨RX7, "torn", "()I"⟩
abbrev cX7_count : ByteArray := prog_1_method_42_code
def yX7_count : MethodName := ⟨RX7, "count", "(I)I"⟩
abbrev cX7_isOutside : ByteArray := prog_1_method_43_code
def yX7_isOutside : MethodName := ⟨RX7, "isOutside", "(III)Z"⟩
abbrev cX7_isNoGate : ByteArray := prog_1_method_44_code
def yX7_isNoGate : MethodName := ⟨RX7, "isNoGate", "(I)Z"⟩
abbrev cX7_isNoTaker : ByteArray := prog_1_method_45_code
def yX7_isNoTaker : MethodName := ⟨RX7, "isNoTaker", "(I)Z"⟩
abbrev cX7_isNoKeeper : ByteArray := prog_1_method_46_code
def yX7_isNoKeeper : MethodName := ⟨RX7, "isNoKeeper", "(I)Z"⟩
abbrev cX7_isNoSheet : ByteArray := prog_1_method_47_code
def yX7_isNoSheet : MethodName := ⟨RX7, "isNoSheet", "(I)Z"⟩
abbrev cX7_isNoQuestion : ByteArray := prog_1_method_48_code
def yX7_isNoQuestion : MethodName := ⟨RX7, "isNoQuestion", "(II)Z"⟩
abbrev cX7_isNoHaze : ByteArray := prog_1_method_49_code
def yX7_isNoHaze : MethodName := ⟨RX7, "isNoHaze", "(III)Z"⟩
abbrev cX7_replace : ByteArray := prog_1_method_50_code
def yX7_replace : MethodName := ⟨RX7, "replace", "([IIIII)I"⟩
abbrev cX7_fullestBag : ByteArray := prog_1_method_51_code
def yX7_fullestBag : MethodName := ⟨RX7, "fullestBag", "(I[IIII)I"⟩
abbrev cX7_fittingBits : ByteArray := prog_1_method_52_code
def yX7_fittingBits : MethodName := ⟨RX7, "fittingBits", "(I[II)I"⟩
abbrev cX7_sendTaker : ByteArray := prog_1_method_53_code
def yX7_sendTaker : MethodName := ⟨RX7, "sendTaker", "(II)Z"⟩
abbrev cX7_takenInHazes : ByteArray := prog_1_method_54_code
def yX7_takenInHazes : MethodName := ⟨RX7, "takenInHazes", "(II)I"⟩
abbrev cX7_weightOf : ByteArray := prog_1_method_55_code
def yX7_weightOf : MethodName := ⟨RX7, "weightOf", "(III)J"⟩
abbrev cX7_partOfFraction : ByteArray := prog_1_method_56_code
def yX7_partOfFraction : MethodName := ⟨RX7, "partOfFraction", "(JJI)J"⟩
abbrev cX7_commonDivisor : ByteArray := prog_1_method_57_code
def yX7_commonDivisor : MethodName := ⟨RX7, "commonDivisor", "(JJ)J"⟩
def RX8 : String := "EveningPoachModel"
def TX8 : u_T := fun k => match k with
  | 0 => ("EveningPoachModel", "state", "[I", true)
  | 1 => ("EveningPoachModel", "takerMany", "I", false)
  | 2 => ("EveningPoachModel", "readPage", "[I", true)
  | 3 => ("EveningPoachModel", "readTakers", "I", false)
  | 4 => ("EveningPoachModel", "toldGates", "I", false)
  | 5 => ("EveningPoachModel", "tape", "[I", true)
  | 6 => ("EveningPoachModel", "taped", "I", false)
  | 7 => ("EveningPoachModel", "fault", "I", false)
  | 8 => ("EveningPoachModel", "broken", "I", false)
  | 9 => ("EveningPoachModel", "brokenAt", "I", false)
  | 10 => ("EveningPoachModel", "spot", "I", false)
  | 11 => ("EveningPoachModel", "here", "I", false)
  | 12 => ("EveningPoachModel", "token", "I", false)
  | 13 => ("EveningPoachModel", "value", "I", false)
  | 14 => ("EveningPoachModel", "ends", "[I", true)
  | 15 => ("EveningPoachModel", "letters", "[I", true)
  | 16 => ("EveningPoachModel", "taken", "I", false)
  | 17 => ("EveningPoachModel", "caughtOnes", "I", false)
  | 18 => ("EveningPoachModel", "times", "I", false)
  | 19 => ("EveningPoachModel", "firstTime", "I", false)
  | 20 => ("EveningPoachModel", "seen", "[I", true)
  | 21 => ("EveningPoachModel", "seenMany", "I", false)
  | 22 => ("EveningPoachModel", "lightBy", "[I", true)
  | 23 => ("EveningPoachModel", "isKept", "[Z", true)
  | 24 => ("EveningPoachModel", "lanes", "[I", true)
  | 25 => ("EveningPoachModel", "lengths", "[I", true)
  | 26 => ("EveningPoachModel", "cells", "[I", true)
  | _ => ("EveningPoachModel", "torn", "I", false)
def tyX8 : Nat → FieldType := fun k => match k with
  | 0 => .array .int
  | 1 => .int
  | 2 => .array .int
  | 3 => .int
  | 4 => .int
  | 5 => .array .int
  | 6 => .int
  | 7 => .int
  | 8 => .int
  | 9 => .int
  | 10 => .int
  | 11 => .int
  | 12 => .int
  | 13 => .int
  | 14 => .array .int
  | 15 => .array .int
  | 16 => .int
  | 17 => .int
  | 18 => .int
  | 19 => .int
  | 20 => .array .int
  | 21 => .int
  | 22 => .array .int
  | 23 => .array .boolean
  | 24 => .array .int
  | 25 => .array .int
  | 26 => .array .int
  | _ => .int
abbrev wsX80 : List Cond := u_ws RX8 TX8 28
theorem nmX8 : ∀ a, a < 28 → ∀ b, b < 28 → a ≠ b → (TX8 a).2.1 ≠ (TX8 b).2.1 := by decide +kernel
theorem tyX8_ok : ∀ k, k < 28 → parseFieldDescriptor (TX8 k).2.2.1 = some (tyX8 k) := by decide +kernel
abbrev cX8_init : ByteArray := prog_10_method_1_code
def yX8_init : MethodName := ⟨RX8, "<init>", "()V"⟩
abbrev cX8_in : ByteArray := prog_10_method_3_code
def yX8_in : MethodName := ⟨RX8, "in", "(JJJ)Z"⟩
abbrev cX8_feed : ByteArray := prog_10_method_4_code
def yX8_feed : MethodName := ⟨RX8, "feed", "(I)I"⟩
abbrev cX8_end : ByteArray := prog_10_method_5_code
def yX8_end : MethodName := ⟨RX8, "end", "(I)I"⟩
abbrev cX8_byteAt : ByteArray := prog_10_method_6_code
def yX8_byteAt : MethodName := ⟨RX8, "byteAt", "(I)I"⟩
abbrev cX8_fails : ByteArray := prog_10_method_7_code
def yX8_fails : MethodName := ⟨RX8, "fails", "(I)V"⟩
abbrev cX8_nameHere : ByteArray := prog_10_method_8_code
def yX8_nameHere : MethodName := ⟨RX8, "nameHere", "()I"⟩
abbrev cX8_step : ByteArray := prog_10_method_9_code
def yX8_step : MethodName := ⟨RX8, "step", "()V"⟩
abbrev cX8_number : ByteArray := prog_10_method_10_code
def yX8_number : MethodName := ⟨RX8, "number", "(II)I"⟩
abbrev cX8_readMore : ByteArray := prog_10_method_11_code
def yX8_readMore : MethodName := ⟨RX8, "readMore", "(I)V"⟩
abbrev cX8_readLine : ByteArray := prog_10_method_12_code
def yX8_readLine : MethodName := ⟨RX8, "readLine", "()V"⟩
abbrev cX8_text : ByteArray := prog_10_method_13_code
def yX8_text : MethodName := ⟨RX8, "text", "()I"⟩
abbrev cX8_fault : ByteArray := prog_10_method_14_code
def yX8_fault : MethodName := ⟨RX8, "fault", "()I"⟩
abbrev cX8_isGate : ByteArray := prog_10_method_15_code
def yX8_isGate : MethodName := ⟨RX8, "isGate", "(I)Z"⟩
abbrev cX8_isTaker : ByteArray := prog_10_method_16_code
def yX8_isTaker : MethodName := ⟨RX8, "isTaker", "(I)Z"⟩
abbrev cX8_isKeeper : ByteArray := prog_10_method_17_code
def yX8_isKeeper : MethodName := ⟨RX8, "isKeeper", "(I)Z"⟩
abbrev cX8_takesOn : ByteArray := prog_10_method_18_code
def yX8_takesOn : MethodName := ⟨RX8, "takesOn", "(II)I"⟩
abbrev cX8_noiseOn : ByteArray := prog_10_method_19_code
def yX8_noiseOn : MethodName := ⟨RX8, "noiseOn", "(II)I"⟩
abbrev cX8_atOn : ByteArray := prog_10_method_20_code
def yX8_atOn : MethodName := ⟨RX8, "atOn", "(II)I"⟩
abbrev cX8_isHeardOn : ByteArray := prog_10_method_21_code
def yX8_isHeardOn : MethodName := ⟨RX8, "isHeardOn", "(II)Z"⟩
abbrev cX8_lightOn : ByteArray := prog_10_method_22_code
def yX8_lightOn : MethodName := ⟨RX8, "lightOn", "(I)I"⟩
abbrev cX8_startCounts : ByteArray := prog_10_method_23_code
def yX8_startCounts : MethodName := ⟨RX8, "startCounts", "()V"⟩
abbrev cX8_goesIn : ByteArray := prog_10_method_24_code
def yX8_goesIn : MethodName := ⟨RX8, "goesIn", "(IIZ)V"⟩
abbrev cX8_nightOn : ByteArray := prog_10_method_25_code
def yX8_nightOn : MethodName := ⟨RX8, "nightOn", "(IZ)V"⟩
abbrev cX8_rule : ByteArray := prog_10_method_26_code
def yX8_rule : MethodName := ⟨RX8, "rule", "(I)I"⟩
abbrev cX8_gate : ByteArray := prog_10_method_27_code
def yX8_gate : MethodName := ⟨RX8, "gate", "(II)I"⟩
abbrev cX8_taker : ByteArray := prog_10_method_28_code
def yX8_taker : MethodName := ⟨RX8, "taker", "(II)I"⟩
abbrev cX8_keeper : ByteArray := prog_10_method_29_code
def yX8_keeper : MethodName := ⟨RX8, "keeper", "(II)I"⟩
abbrev cX8_puts : ByteArray := prog_10_method_30_code
def yX8_puts : MethodName := ⟨RX8, "puts", "(ZIII)I"⟩
abbrev cX8_alters : ByteArray := prog_10_method_31_code
def yX8_alters : MethodName := ⟨RX8, "alters", "(III)I"⟩
abbrev cX8_alter : ByteArray := prog_10_method_32_code
def yX8_alter : MethodName := ⟨RX8, "alter", "(III)I"⟩
abbrev cX8_order : ByteArray := prog_10_method_33_code
def yX8_order : MethodName := ⟨RX8, "order", "(III)I"⟩
abbrev cX8_tend : ByteArray := prog_10_method_34_code
def yX8_tend : MethodName := ⟨RX8, "tend", "(III)I"⟩
abbrev cX8_free : ByteArray := prog_10_method_35_code
def yX8_free : MethodName := ⟨RX8, "free", "(I)I"⟩
abbrev cX8_hiresOn : ByteArray := prog_10_method_36_code
def yX8_hiresOn : MethodName := ⟨RX8, "hiresOn", "(IIII)V"⟩
abbrev cX8_hire : ByteArray := prog_10_method_37_code
def yX8_hire : MethodName := ⟨RX8, "hire", "(III)I"⟩
abbrev cX8_dismiss : ByteArray := prog_10_method_38_code
def yX8_dismiss : MethodName := ⟨RX8, "dismiss", "(I)I"⟩
abbrev cX8_nights : ByteArray := prog_10_method_39_code
def yX8_nights : MethodName := ⟨RX8, "nights", "(I)I"⟩
abbrev cX8_copies : ByteArray := prog_10_method_40_code
def yX8_copies : MethodName := ⟨RX8, "copies", "(II)V"⟩
abbrev cX8_nightsGo : ByteArray := prog_10_method_41_code
def yX8_nightsGo : MethodName := ⟨RX8, "nightsGo", "(II)I"⟩
abbrev cX8_runs : ByteArray := prog_10_method_42_code
def yX8_runs : MethodName := ⟨RX8, "runs", "(II)I"⟩
abbrev cX8_ahead : ByteArray := prog_10_method_43_code
def yX8_ahead : MethodName := ⟨RX8, "ahead", "(III)I"⟩
abbrev cX8_glow : ByteArray := prog_10_method_44_code
def yX8_glow : MethodName := ⟨RX8, "glow", "(II)I"⟩
abbrev cX8_caught : ByteArray := prog_10_method_45_code
def yX8_caught : MethodName := ⟨RX8, "caught", "(I)I"⟩
abbrev cX8_best : ByteArray := prog_10_method_46_code
def yX8_best : MethodName := ⟨RX8, "best", "(III)I"⟩
abbrev cX8_ripen : ByteArray := prog_10_method_47_code
def yX8_ripen : MethodName := ⟨RX8, "ripen", "(III)I"⟩
abbrev cX8_swap : ByteArray := prog_10_method_48_code
def yX8_swap : MethodName := ⟨RX8, "swap", "(II)I"⟩
abbrev cX8_round : ByteArray := prog_10_method_49_code
def yX8_round : MethodName := ⟨RX8, "round", "(III)I"⟩
abbrev cX8_post : ByteArray := prog_10_method_50_code
def yX8_post : MethodName := ⟨RX8, "post", "(III)I"⟩
abbrev cX8_kind : ByteArray := prog_10_method_51_code
def yX8_kind : MethodName := ⟨RX8, "kind", "(III)I"⟩
abbrev cX8_sharp : ByteArray := prog_10_method_52_code
def yX8_sharp : MethodName := ⟨RX8, "sharp", "(III)I"⟩
abbrev cX8_lowest : ByteArray := prog_10_method_53_code
def yX8_lowest : MethodName := ⟨RX8, "lowest", "(JJI)J"⟩
abbrev cX8_byHaze : ByteArray := prog_10_method_54_code
def yX8_byHaze : MethodName := ⟨RX8, "byHaze", "(IIII)J"⟩
abbrev cX8_luck : ByteArray := prog_10_method_55_code
def yX8_luck : MethodName := ⟨RX8, "luck", "(IIII)J"⟩
abbrev cX8_mean : ByteArray := prog_10_method_56_code
def yX8_mean : MethodName := ⟨RX8, "mean", "(III)J"⟩
abbrev cX8_see : ByteArray := prog_10_method_57_code
def yX8_see : MethodName := ⟨RX8, "see", "(III)I"⟩
abbrev cX8_forget : ByteArray := prog_10_method_58_code
def yX8_forget : MethodName := ⟨RX8, "forget", "(I)I"⟩
abbrev cX8_isAsSeen : ByteArray := prog_10_method_59_code
def yX8_isAsSeen : MethodName := ⟨RX8, "isAsSeen", "(I)Z"⟩
abbrev cX8_kinds : ByteArray := prog_10_method_60_code
def yX8_kinds : MethodName := ⟨RX8, "kinds", "(I)I"⟩
abbrev cX8_gatesOf : ByteArray := prog_10_method_61_code
def yX8_gatesOf : MethodName := ⟨RX8, "gatesOf", "(I)I"⟩
abbrev cX8_gates : ByteArray := prog_10_method_62_code
def yX8_gates : MethodName := ⟨RX8, "gates", "(I)I"⟩
abbrev cX8_worstAt : ByteArray := prog_10_method_63_code
def yX8_worstAt : MethodName := ⟨RX8, "worstAt", "(II)I"⟩
abbrev cX8_ask : ByteArray := prog_10_method_64_code
def yX8_ask : MethodName := ⟨RX8, "ask", "(II)I"⟩
abbrev cX8_drift : ByteArray := prog_10_method_65_code
def yX8_drift : MethodName := ⟨RX8, "drift", "(III)I"⟩
abbrev cX8_keep : ByteArray := prog_10_method_66_code
def yX8_keep : MethodName := ⟨RX8, "keep", "(I)I"⟩
abbrev cX8_back : ByteArray := prog_10_method_67_code
def yX8_back : MethodName := ⟨RX8, "back", "(I)I"⟩
abbrev cX8_sheet : ByteArray := prog_10_method_68_code
def yX8_sheet : MethodName := ⟨RX8, "sheet", "(III)I"⟩
abbrev cX8_lay : ByteArray := prog_10_method_69_code
def yX8_lay : MethodName := ⟨RX8, "lay", "(III)I"⟩
abbrev cX8_read : ByteArray := prog_10_method_70_code
def yX8_read : MethodName := ⟨RX8, "read", "(IIII)I"⟩
abbrev cX8_torn : ByteArray := prog_10_method_71_code
def yX8_torn : MethodName := ⟨RX8, "torn", "()I"⟩
abbrev cX8_count : ByteArray := prog_10_method_72_code
def yX8_count : MethodName := ⟨RX8, "count", "(I)I"⟩
def RJ6 : String := "java/lang/Integer"
def TJ6 : u_T := fun k => match k with
  | _ => ("", "", "", false)
def tyJ6 : Nat → FieldType := fun k => match k with
  | _ => .int
abbrev wsJ60 : List Cond := u_ws RJ6 TJ6 0
theorem nmJ6 : ∀ a, a < 0 → ∀ b, b < 0 → a ≠ b → (TJ6 a).2.1 ≠ (TJ6 b).2.1 := by decide +kernel
theorem tyJ6_ok : ∀ k, k < 0 → parseFieldDescriptor (TJ6 k).2.2.1 = some (tyJ6 k) := by decide +kernel
abbrev cJ6_bitCount_0f7a4 : ByteArray := prog_11_method_49_code
def yJ6_bitCount_0f7a4 : MethodName := ⟨RJ6, "bitCount", "(I)I"⟩
def RJ9 : String := "java/lang/Math"
def TJ9 : u_T := fun k => match k with
  | _ => ("", "", "", false)
def tyJ9 : Nat → FieldType := fun k => match k with
  | _ => .int
abbrev wsJ90 : List Cond := u_ws RJ9 TJ9 0
theorem nmJ9 : ∀ a, a < 0 → ∀ b, b < 0 → a ≠ b → (TJ9 a).2.1 ≠ (TJ9 b).2.1 := by decide +kernel
theorem tyJ9_ok : ∀ k, k < 0 → parseFieldDescriptor (TJ9 k).2.2.1 = some (tyJ9 k) := by decide +kernel
abbrev cJ9_max_7cf53 : ByteArray := prog_12_method_65_code
def yJ9_max_7cf53 : MethodName := ⟨RJ9, "max", "(II)I"⟩
abbrev cJ9_min_7cf53 : ByteArray := prog_12_method_69_code
def yJ9_min_7cf53 : MethodName := ⟨RJ9, "min", "(II)I"⟩
def RJ0 : String := "java/lang/String"
def TJ0 : u_T := fun k => match k with
  | _ => ("", "", "", false)
def tyJ0 : Nat → FieldType := fun k => match k with
  | _ => .int
abbrev wsJ00 : List Cond := u_ws RJ0 TJ0 0
theorem nmJ0 : ∀ a, a < 0 → ∀ b, b < 0 → a ≠ b → (TJ0 a).2.1 ≠ (TJ0 b).2.1 := by decide +kernel
theorem tyJ0_ok : ∀ k, k < 0 → parseFieldDescriptor (TJ0 k).2.2.1 = some (tyJ0 k) := by decide +kernel
abbrev cJ0_length_8abf5 : ByteArray := prog_13_method_54_code
def yJ0_length_8abf5 : MethodName := ⟨RJ0, "length", "()I"⟩
abbrev cJ0_charAt_5068e : ByteArray := prog_13_method_56_code
def yJ0_charAt_5068e : MethodName := ⟨RJ0, "charAt", "(I)C"⟩
abbrev cJ0_coder_7d493 : ByteArray := prog_13_method_152_code
def yJ0_coder_7d493 : MethodName := ⟨RJ0, "coder", "()B"⟩
abbrev cJ0_isLatin1_aae02 : ByteArray := prog_13_method_154_code
def yJ0_isLatin1_aae02 : MethodName := ⟨RJ0, "isLatin1", "()Z"⟩
abbrev cJ0_checkIndex_df160 : ByteArray := prog_13_method_155_code
def yJ0_checkIndex_df160 : MethodName := ⟨RJ0, "checkIndex", "(II)V"⟩
def RJ1 : String := "java/lang/StringLatin1"
def TJ1 : u_T := fun k => match k with
  | _ => ("", "", "", false)
def tyJ1 : Nat → FieldType := fun k => match k with
  | _ => .int
abbrev wsJ10 : List Cond := u_ws RJ1 TJ1 0
theorem nmJ1 : ∀ a, a < 0 → ∀ b, b < 0 → a ≠ b → (TJ1 a).2.1 ≠ (TJ1 b).2.1 := by decide +kernel
theorem tyJ1_ok : ∀ k, k < 0 → parseFieldDescriptor (TJ1 k).2.2.1 = some (tyJ1 k) := by decide +kernel
abbrev cJ1_charAt_3b067 : ByteArray := prog_14_method_2_code
def yJ1_charAt_3b067 : MethodName := ⟨RJ1, "charAt", "([BI)C"⟩
def RJ2 : String := "java/lang/StringUTF16"
def TJ2 : u_T := fun k => match k with
  | _ => ("", "", "", false)
def tyJ2 : Nat → FieldType := fun k => match k with
  | _ => .int
abbrev wsJ20 : List Cond := u_ws RJ2 TJ2 0
theorem nmJ2 : ∀ a, a < 0 → ∀ b, b < 0 → a ≠ b → (TJ2 a).2.1 ≠ (TJ2 b).2.1 := by decide +kernel
theorem tyJ2_ok : ∀ k, k < 0 → parseFieldDescriptor (TJ2 k).2.2.1 = some (tyJ2 k) := by decide +kernel
abbrev cJ2_getChar_3b067 : ByteArray := prog_15_method_5_code
def yJ2_getChar_3b067 : MethodName := ⟨RJ2, "getChar", "([BI)C"⟩
abbrev cJ2_length_9d52b : ByteArray := prog_15_method_6_code
def yJ2_length_9d52b : MethodName := ⟨RJ2, "length", "([B)I"⟩
abbrev cJ2_charAt_3b067 : ByteArray := prog_15_method_83_code
def yJ2_charAt_3b067 : MethodName := ⟨RJ2, "charAt", "([BI)C"⟩
abbrev cJ2_checkIndex_2214a : ByteArray := prog_15_method_91_code
def yJ2_checkIndex_2214a : MethodName := ⟨RJ2, "checkIndex", "(I[B)V"⟩
def RJ10 : String := "java/lang/System"
def TJ10 : u_T := fun k => match k with
  | _ => ("", "", "", false)
def tyJ10 : Nat → FieldType := fun k => match k with
  | _ => .int
abbrev wsJ100 : List Cond := u_ws RJ10 TJ10 0
theorem nmJ10 : ∀ a, a < 0 → ∀ b, b < 0 → a ≠ b → (TJ10 a).2.1 ≠ (TJ10 b).2.1 := by decide +kernel
theorem tyJ10_ok : ∀ k, k < 0 → parseFieldDescriptor (TJ10 k).2.2.1 = some (tyJ10 k) := by decide +kernel
def RJ3 : String := "jdk/internal/util/Preconditions"
def TJ3 : u_T := fun k => match k with
  | _ => ("", "", "", false)
def tyJ3 : Nat → FieldType := fun k => match k with
  | _ => .int
abbrev wsJ30 : List Cond := u_ws RJ3 TJ3 0
theorem nmJ3 : ∀ a, a < 0 → ∀ b, b < 0 → a ≠ b → (TJ3 a).2.1 ≠ (TJ3 b).2.1 := by decide +kernel
theorem tyJ3_ok : ∀ k, k < 0 → parseFieldDescriptor (TJ3 k).2.2.1 = some (tyJ3 k) := by decide +kernel
abbrev cJ3_checkIndex_8e157 : ByteArray := prog_17_method_11_code
def yJ3_checkIndex_8e157 : MethodName := ⟨RJ3, "checkIndex", "(IILjava/util/function/BiFunction;)I"⟩
def RL : String := "EveningPoachLaw"
abbrev cL_law : ByteArray := code
def yL_law : MethodName := ⟨RL, "law", "([I)Z"⟩
abbrev vwCl : List vw_C := [(RX0, TX0, 14), (RX1, TX1, 2), (RX2, TX2, 3), (RX3, TX3, 4), (RX4, TX4, 2), (RX5, TX5, 8), (RX6, TX6, 6), (RX7, TX7, 11), (RX8, TX8, 28)]
end
section
/-! the words of the tables that stay, wherever a method stands -/
def ALL : List Cond := lw_tbl.filter goodWord
theorem aw {w : Cond} (i : Nat) (h : lw_tbl[i]? = some w) (g : goodWord w = true) : w ∈ ALL := List.mem_filter.mpr ⟨List.mem_of_getElem? h, g⟩
theorem all_good : GoodIn ALL ALL := fun _ h => ⟨h, good_of_word (List.mem_filter.mp h).2⟩
theorem good_cons {w : Cond} {ws : List Cond} (h : w ∈ ALL) (hw : GoodIn ALL ws) : GoodIn ALL (w :: ws) := fun x hx => by
  rcases List.mem_cons.mp hx with rfl | hx
  · exact all_good _ h
  · exact hw x hx
/-! a world's memory: numbers by cell and place -/
abbrev Mem : Type := Nat → Nat → Int32
def mr (M : Mem) (o : Nat) (f : Nat → Int32) : Mem := fun a => if a = o then f else M a
theorem mr_s (M : Mem) (o : Nat) (f : Nat → Int32) : mr M o f o = f := if_pos rfl
theorem mr_n {M : Mem} {o a : Nat} {f : Nat → Int32} (h : a ≠ o) : mr M o f a = M a := if_neg h
/-- one place of one cell -/
def mu (M : Mem) (o k : Nat) (v : Int32) : Mem := mr M o (upd (M o) k v)
/-- what a cell is: an object (its class, its fields: a cell's number or a number of the memory), numbers (kind, length), cells (kind, length, which) -/
abbrev Lay : Type := (Nat × List (Option Nat)) ⊕ ((Nat × Nat) ⊕ (Nat × Nat × (Nat → Nat)))
def fx (ad : Nat → Nat) (z : Int32) (x : Option Nat) : Value := match x with
  | some q => .ref (ad q)
  | none => .int z
def fv (ad : Nat → Nat) (r : Nat → Int32) (fs : List (Option Nat)) (k : Nat) : Value := fx ad (r k) (fs.getD k none)
def fvs (ad : Nat → Nat) (r : Nat → Int32) (fs : List (Option Nat)) : List Value := (List.range fs.length).map (fv ad r fs)
def cellOf (cA : Nat → ClassId) (ad : Nat → Nat) (L : Lay) (r : Nat → Int32) : va_E := match L with
  | .inl (ci, fs) => .inr (ci, fvs ad r fs)
  | .inr (.inl (t, n)) => .inl (cA t, n, .inl r)
  | .inr (.inr (t, n, g)) => .inl (cA t, n, .inr (.inr (.inr (.inr (fun j => some (ad (g j)))))))
def wsOf (cA : Nat → ClassId) (ad : Nat → Nat) (lay : Nat → Lay) (N : Nat) (M : Mem) : va_W := (List.range N).map (fun o => (ad o, cellOf cA ad (lay o) (M o)))
theorem wsOf_get {cA : Nat → ClassId} {ad : Nat → Nat} {lay : Nat → Lay} {N : Nat} {M : Mem} {o : Nat} (h : o < N) : (wsOf cA ad lay N M)[o]? = some (ad o, cellOf cA ad (lay o) (M o)) := by
  unfold wsOf
  rw [List.getElem?_map, List.getElem?_range h]
  rfl
theorem wsOf_set {cA : Nat → ClassId} {ad : Nat → Nat} {lay : Nat → Lay} {N : Nat} {M : Mem} {o : Nat} (f : Nat → Int32) : (wsOf cA ad lay N M).set o (ad o, cellOf cA ad (lay o) f) = wsOf cA ad lay N (mr M o f) := by
  apply List.ext_getElem?
  intro k
  rw [List.getElem?_set]
  by_cases hk : k < N
  · rw [wsOf_get hk, wsOf_get hk]
    by_cases h : o = k
    · subst h
      rw [mr_s]
      have : o < (wsOf cA ad lay N M).length := by unfold wsOf; simpa using hk
      simp [this]
    · rw [mr_n (fun q => h q.symm)]
      simp [h]
  · have h1 : ∀ M' : Mem, (wsOf cA ad lay N M')[k]? = none := fun M' => List.getElem?_eq_none (by unfold wsOf; simpa using hk)
    rw [h1, h1]
    by_cases h : o = k
    · subst h
      have : ¬ o < (wsOf cA ad lay N M).length := by unfold wsOf; simpa using hk
      simp [this]
    · simp [h]
theorem fvs_get {ad : Nat → Nat} {r : Nat → Int32} {fs : List (Option Nat)} {k : Nat} {x : Option Nat} (h : fs[k]? = some x) : (fvs ad r fs)[k]? = some (fx ad (r k) x) := by
  have hk : k < fs.length := (List.getElem?_eq_some_iff.mp h).1
  unfold fvs
  rw [List.getElem?_map, List.getElem?_range hk]
  simp [fv, h]
theorem fvs_len {ad : Nat → Nat} {r : Nat → Int32} {fs : List (Option Nat)} : (fvs ad r fs).length = fs.length := by unfold fvs; simp
theorem fvs_set {ad : Nat → Nat} {r : Nat → Int32} {fs : List (Option Nat)} {k : Nat} {v : Int32} (h : fs[k]? = some none) : (fvs ad r fs).set k (.int v) = fvs ad (upd r k v) fs := by
  apply List.ext_getElem?
  intro j
  have hk : k < fs.length := (List.getElem?_eq_some_iff.mp h).1
  rw [List.getElem?_set, fvs_len]
  by_cases hj : k = j
  · subst hj
    rw [fvs_get (ad := ad) (r := upd r k v) h]
    simp [hk, upd, fx]
  · simp only [hj, if_false]
    cases hf : fs[j]? with
    | none =>
      have hl : fs.length ≤ j := List.getElem?_eq_none_iff.mp hf
      rw [List.getElem?_eq_none (by rw [fvs_len]; exact hl), List.getElem?_eq_none (by rw [fvs_len]; exact hl)]
    | some x =>
      rw [fvs_get hf, fvs_get hf]
      cases x with
      | some q => rfl
      | none => simp [upd, Ne.symm hj, fx]
/-! the fixed things: classes, array classes, addresses, the cells that may change; static arrays; texts -/
abbrev Gt : Type := va_G × (Nat → ClassId) × (Nat → Nat) × (Nat → Prop) × (Nat × Nat) × (Nat → Nat) × (Nat → Nat)
abbrev gD (g : Gt) : va_G := g.1
abbrev gC (g : Gt) : Nat → ClassId := g.2.1
abbrev ga (g : Gt) : Nat → Nat := g.2.2.1
abbrev gF (g : Gt) : Nat → Prop := g.2.2.2.1
abbrev gT (g : Gt) : Nat × Nat := g.2.2.2.2.1
abbrev gK (g : Gt) : Nat → Nat := g.2.2.2.2.2.1
abbrev gV (g : Gt) : Nat → Nat := g.2.2.2.2.2.2
def tysOf (cA : Nat → ClassId) : List (ClassId × FieldType) := [(cA 0, .int), (cA 1, .byte), (cA 2, .boolean), (cA 3, .object "EveningPoach$Estate"), (cA 4, .object "EveningPoach$Sheet"), (cA 5, .array .int)]
def takesT : Nat → Int32 := fun j => match j with | 0 => 6 | 1 => 6 | 2 => 3 | _ => 12
def noiseT : Nat → Int32 := fun j => match j with | 0 => 3 | 1 => 1 | 2 => 5 | _ => 5
def txLen : List Nat := [3, 3, 3, 6, 6, 4]
def txByt : List (List Int32) := [[110, 101, 116], [100, 111, 103], [98, 111, 121], [115, 113, 117, 105, 114, 101], [107, 101, 101, 112, 101, 114], [103, 97, 116, 101]]
def txAt (g : Gt) (U : State) : Prop := vk_R RX5 129 "net" (gK g 0) U ∧ vk_R RX5 131 "dog" (gK g 1) U ∧ vk_R RX5 133 "boy" (gK g 2) U ∧ vk_R RX5 135 "squire" (gK g 3) U ∧ vk_R RX5 56 "keeper" (gK g 4) U ∧ vk_R RX5 61 "gate" (gK g 5) U
def StZ (g : Gt) (U : State) (H : Heap) : Prop := va_Z RX0 "TAKES_BY_KIND" "[I" (.ref (gT g).1) (gF g) U H ∧ va_T .int (gT g).1 4 (fun j => .int (takesT j)) (gF g) U H ∧ va_Z RX0 "NOISE_BY_KIND" "[I" (.ref (gT g).2) (gF g) U H ∧ va_T .int (gT g).2 4 (fun j => .int (noiseT j)) (gF g) U H
  ∧ vk_S 6 txLen txByt (gK g) (gV g) (gF g) U H ∧ va_Z "java/lang/String" "COMPACT_STRINGS" "Z" (.int 1) (gF g) U H ∧ va_Zq "jdk/internal/util/Preconditions" "SIOOBE_FORMATTER" "Ljava/util/function/BiFunction;" (gF g) U H
def Sta (g : Gt) (U : State) (H : Heap) : Prop := StZ g U H ∧ txAt g U
theorem StZ.moved {g : Gt} {u U : State} {H : Heap} (hvm : u.vm.Alike U.vm) (h : StZ g u H) : StZ g U H := by
  obtain ⟨h1, h2, h3, h4, h5, h6, h7⟩ := h
  exact ⟨h1.moved hvm, h2.moved hvm, h3.moved hvm, h4.moved hvm, h5.moved hvm, h6.moved hvm, h7.moved hvm⟩
theorem StZ.kept {g : Gt} {U : State} {H H1 : Heap} (h : StZ g U H) (hq : ∀ a : Nat, a < H.size → ¬ (gF g) a → H1[a]? = H[a]?) : StZ g U H1 := by
  obtain ⟨h1, h2, h3, h4, h5, h6, h7⟩ := h
  exact ⟨h1.kept hq, h2.kept hq, h3.kept hq, h4.kept hq, h5.kept hq, h6.kept hq, h7.kept hq⟩
theorem txAt.warm {g : Gt} {s U : State} (hW : s.WarmedH U.vm) (h : txAt g s) : txAt g U := by
  obtain ⟨h1, h2, h3, h4, h5, h6⟩ := h
  exact ⟨h1.warm hW, h2.warm hW, h3.warm hW, h4.warm hW, h5.warm hW, h6.warm hW⟩
theorem txAt.same {g : Gt} {u U : State} (hv : U.vm = u.vm) (h : txAt g u) : txAt g U := by
  obtain ⟨h1, h2, h3, h4, h5, h6⟩ := h
  exact ⟨h1.same hv, h2.same hv, h3.same hv, h4.same hv, h5.same hv, h6.same hv⟩
/-! a world, a contract -/
def Wd (g : Gt) (lay : Nat → Lay) (N : Nat) (H0 : Heap) (M : Mem) (H : Heap) (locs : List Loc) : Prop := va_P (gD g) vwCl (wsOf (gC g) (ga g) lay N M) H ∧ va_D (gF g) (wsOf (gC g) (ga g) lay N M) ∧ va_S (gF g) H0 H locs
def PreW (g : Gt) (lay : Nat → Lay) (N : Nat) (M : Mem) (U : State) : Prop := va_P (gD g) vwCl (wsOf (gC g) (ga g) lay N M) U.heap ∧ va_D (gF g) (wsOf (gC g) (ga g) lay N M) ∧ va_K (gD g) vwCl (tysOf (gC g)) U ∧ Sta g U U.heap
def PostW (g : Gt) (lay : Nat → Lay) (N : Nat) (M : Mem) (t : State) : Prop := va_P (gD g) vwCl (wsOf (gC g) (ga g) lay N M) t.heap ∧ va_D (gF g) (wsOf (gC g) (ga g) lay N M)
abbrev rmOf (f L : Nat) : Room := { frames := f, cells := 0, slots := 0, locals := L }
/-- what holds in a method's body: the machine, the code, where it stands, the tables -/
def Cx (p : Program) (s : State) (m : MethodId) (args : Array Value) (c : Code) (cc : ByteArray) (nL : Nat) (own : String) (g : Gt) : Prop := CallFix p m c cc nL s args ALL own ∧ va_K (gD g) vwCl (tysOf (gC g)) s ∧ Sta g s s.heap
abbrev wsY (y : MethodName) (cc : ByteArray) (nL : Nat) (rt : Option FieldType) : List Cond := .code y cc nL rt :: ALL
/-- contracts: an int (a boolean) is answered, a long, nothing, a text -/
def MI (l : Launch) (y : MethodName) (cc : ByteArray) (nL : Nat) (rt : Option FieldType) (f L : Nat) (g : Gt) (lay : Nat → Lay) (N : Nat) (av : List Value) (M : Mem) (Q : Int32 → Mem → Prop) : Prop :=
  Met l y (wsY y cc nL rt) (rmOf f L) (va_Pc av (PreW g lay N M)) (va_Qi Q (PostW g lay N) (gF g)) 0 0 (gF g)
def ML (l : Launch) (y : MethodName) (cc : ByteArray) (nL : Nat) (rt : Option FieldType) (f L : Nat) (g : Gt) (lay : Nat → Lay) (N : Nat) (av : List Value) (M : Mem) (Q : Int64 → Mem → Prop) : Prop :=
  Met l y (wsY y cc nL rt) (rmOf f L) (va_Pc av (PreW g lay N M)) (va_Ql Q (PostW g lay N) (gF g)) 0 0 (gF g)
def MV (l : Launch) (y : MethodName) (cc : ByteArray) (nL : Nat) (rt : Option FieldType) (f L : Nat) (g : Gt) (lay : Nat → Lay) (N : Nat) (av : List Value) (M : Mem) (Q : Mem → Prop) : Prop :=
  Met l y (wsY y cc nL rt) (rmOf f L) (va_Pc av (PreW g lay N M)) (va_Qv Q (PostW g lay N) (gF g)) 0 0 (gF g)
def MT (l : Launch) (y : MethodName) (cc : ByteArray) (nL : Nat) (rt : Option FieldType) (f L : Nat) (g : Gt) (lay : Nat → Lay) (N : Nat) (av : List Value) (M : Mem) (Q : Nat → Mem → Prop) : Prop :=
  Met l y (wsY y cc nL rt) (rmOf f L) (va_Pc av (PreW g lay N M)) (va_Qr (fun u : Nat × Mem => Q u.1 u.2) (fun u a t => a = gK g u.1 ∧ PostW g lay N u.2 t) (gF g)) 0 0 (gF g)
theorem PreW.blind {g : Gt} {lay : Nat → Lay} {N : Nat} {M : Mem} {av : List Value} : FrameBlind (va_Pc av (PreW g lay N M)) := by
  intro a U f mk h
  obtain ⟨h0, h1, h2, h3, h4, h5⟩ := h
  exact ⟨h0, h1, h2, va_K.moved (u := U) (U := U.calling f mk a) (Vm.Alike.refl U.vm) h3, h4.moved (u := U) (U := U.calling f mk a) (Vm.Alike.refl U.vm), h5.same (u := U) (U := U.calling f mk a) rfl⟩
section BX
variable {p : Program} {l : Launch} {e : Env} {R : Room} {s : State} {m : MethodId} {args : Array Value} {below : List Frame} {meth : Method} {c : Code} {H : Heap} {locs : List Loc} {cells slots : Nat} {Qs : State → Prop}
variable {cc : ByteArray} {pc nL : Nat} {ls : Array Slot} {rest : List Value} {own : String} {g : Gt} {lay : Nat → Lay} {N : Nat} {M : Mem} {H0 : Heap}
theorem PreW.of {av : List Value} (C : Cx p s m args c cc nL own g) (w : Wd g lay N s.heap M H locs) {U : State} (hU : U.heap = H) (hW : s.WarmedH U.vm) : va_Pc av (PreW g lay N M) av.toArray U :=
  ⟨rfl, by rw [hU]; exact w.1, w.2.1, va_K.moved hW.alike C.2.1, by
    rw [hU]
    exact (C.2.2.1.kept (fun a h1 h2 => w.2.2.2.1 a h1 h2)).moved hW.alike, C.2.2.2.warm hW⟩
/-- a class of the worlds, in the tables -/
def KC (ci : Nat) (Cn : String) (T : u_T) (n : Nat) (ty : Nat → FieldType) : Prop := (∀ w ∈ u_ws Cn T n, w ∈ ALL) ∧ vwCl[ci]? = some (Cn, T, n) ∧ (∀ k, k < n → parseFieldDescriptor (T k).2.2.1 = some (ty k)) ∧ (∀ a, a < n → ∀ b, b < n → a ≠ b → (T a).2.1 ≠ (T b).2.1)
theorem q_geti (C : Cx p s m args c cc nL own g) (w : Wd g lay N H0 M H locs) {o ci index n : Nat} {fs : List (Option Nat)} {Cn : String} {T : u_T} {ty : Nat → FieldType} (K : KC ci Cn T n ty) (ho : o < N) (hl : lay o = .inl (ci, fs)) (k : Nat) (hf : fs[k]? = some none) (hk : k < n) (hlink : Cond.fieldLink own index (T k).1 (T k).2.1 (T k).2.2.1 ∈ ALL) (hdg : decode cc pc = .ok (.getfield index, 3))
    (kk : W p l e R s m args below meth c H locs cells slots Qs (F0 m (pc + 3) ls (.int (M o k) :: rest))) : W p l e R s m args below meth c H locs cells slots Qs (F0 m pc ls (.ref (ga g o) :: rest)) := by
  obtain ⟨⟨hx, hb, hml, hown, hts⟩, hK, -⟩ := C
  have he := wsOf_get (cA := gC g) (ad := ga g) (lay := lay) (M := M) ho
  rw [hl] at he
  exact va_get (D := gD g) (ci := ci) (C := Cn) (T := T) (N := n) hx hb hts K.1 hown hK w.1 o he K.2.1 k hk (hts _ hlink) (fun _ h => h) (fvs_get hf) hdg kk
theorem q_getr (C : Cx p s m args c cc nL own g) (w : Wd g lay N H0 M H locs) {o ci index n : Nat} {fs : List (Option Nat)} {Cn : String} {T : u_T} {ty : Nat → FieldType} (K : KC ci Cn T n ty) (ho : o < N) (hl : lay o = .inl (ci, fs)) (k : Nat) {x : Nat} (hf : fs[k]? = some (some x)) (hk : k < n) (hlink : Cond.fieldLink own index (T k).1 (T k).2.1 (T k).2.2.1 ∈ ALL) (hdg : decode cc pc = .ok (.getfield index, 3))
    (kk : W p l e R s m args below meth c H locs cells slots Qs (F0 m (pc + 3) ls (.ref (ga g x) :: rest))) : W p l e R s m args below meth c H locs cells slots Qs (F0 m pc ls (.ref (ga g o) :: rest)) := by
  obtain ⟨⟨hx, hb, hml, hown, hts⟩, hK, -⟩ := C
  have he := wsOf_get (cA := gC g) (ad := ga g) (lay := lay) (M := M) ho
  rw [hl] at he
  exact va_get (D := gD g) (ci := ci) (C := Cn) (T := T) (N := n) hx hb hts K.1 hown hK w.1 o he K.2.1 k hk (hts _ hlink) (fun _ h => h) (fvs_get hf) hdg kk
theorem q_put (C : Cx p s m args c cc nL own g) (w : Wd g lay N H0 M H locs) {o ci index n : Nat} {fs : List (Option Nat)} {Cn : String} {T : u_T} {ty : Nat → FieldType} (K : KC ci Cn T n ty) (ho : o < N) (hl : lay o = .inl (ci, fs)) (k : Nat) (hf : fs[k]? = some none) (hk : k < n) (hlink : Cond.fieldLink own index (T k).1 (T k).2.1 (T k).2.2.1 ∈ ALL) (hfin : (T k).2.2.2 = false) (hty : parseFieldDescriptor (T k).2.2.1 = some .int) (hdg : decode cc pc = .ok (.putfield index, 3)) {v : Int32}
    (kk : ∀ (M1 : Mem) (H1 : Heap) (locs1 : List Loc), M1 = mu M o k v → Wd g lay N H0 M1 H1 locs1 → W p l e R s m args below meth c H1 locs1 cells slots Qs (F0 m (pc + 3) ls rest)) : W p l e R s m args below meth c H locs cells slots Qs (F0 m pc ls (.int v :: .ref (ga g o) :: rest)) := by
  obtain ⟨⟨hx, hb, hml, hown, hts⟩, hK, -⟩ := C
  have he := wsOf_get (cA := gC g) (ad := ga g) (lay := lay) (M := M) ho
  rw [hl] at he
  refine va_put (D := gD g) (ci := ci) (C := Cn) (T := T) (N := n) hx hb hts K.1 ty K.2.2.1 K.2.2.2 hown hK w.1 w.2.1 w.2.2 o he K.2.1 k hk (hts _ hlink) (fun _ h => h) hfin hty rfl rfl (by rw [fvs_len]; exact (List.getElem?_eq_some_iff.mp hf).1) hdg (fun H1 locs1 hP hD hS => kk _ H1 locs1 rfl ?_)
  have e : (ga g o, (.inr (ci, (fvs (ga g) (M o) fs).set k (.int v)) : va_E)) = (ga g o, cellOf (gC g) (ga g) (lay o) (upd (M o) k v)) := by
    rw [hl, fvs_set hf]
    rfl
  rw [e, wsOf_set] at hP hD
  exact ⟨hP, hD, hS⟩
theorem q_ial (C : Cx p s m args c cc nL own g) (w : Wd g lay N H0 M H locs) {o n : Nat} {i : Int32} (ho : o < N) (hl : lay o = .inr (.inl (0, n))) (hin : vp_in i n) (hdg : decode cc pc = .ok (.iaload, 1))
    (kk : W p l e R s m args below meth c H locs cells slots Qs (F0 m (pc + 1) ls (.int (M o i.toNatClampNeg) :: rest))) : W p l e R s m args below meth c H locs cells slots Qs (F0 m pc ls (.int i :: .ref (ga g o) :: rest)) := by
  have he := wsOf_get (cA := gC g) (ad := ga g) (lay := lay) (M := M) ho
  rw [hl] at he
  exact va_iald C.1.1 C.1.2.1 C.2.1 w.1 o 0 he rfl hin hdg kk
theorem q_bal (C : Cx p s m args c cc nL own g) (w : Wd g lay N H0 M H locs) {o n : Nat} {i : Int32} (ho : o < N) (hl : lay o = .inr (.inl (1, n))) (hin : vp_in i n) (hdg : decode cc pc = .ok (.baload, 1))
    (kk : W p l e R s m args below meth c H locs cells slots Qs (F0 m (pc + 1) ls (.int (M o i.toNatClampNeg) :: rest))) : W p l e R s m args below meth c H locs cells slots Qs (F0 m pc ls (.int i :: .ref (ga g o) :: rest)) := by
  have he := wsOf_get (cA := gC g) (ad := ga g) (lay := lay) (M := M) ho
  rw [hl] at he
  exact va_bald C.1.1 C.1.2.1 C.2.1 w.1 o 1 he rfl hin hdg kk
theorem q_zal (C : Cx p s m args c cc nL own g) (w : Wd g lay N H0 M H locs) {o n : Nat} {i : Int32} (ho : o < N) (hl : lay o = .inr (.inl (2, n))) (hin : vp_in i n) (hdg : decode cc pc = .ok (.baload, 1))
    (kk : W p l e R s m args below meth c H locs cells slots Qs (F0 m (pc + 1) ls (.int (M o i.toNatClampNeg) :: rest))) : W p l e R s m args below meth c H locs cells slots Qs (F0 m pc ls (.int i :: .ref (ga g o) :: rest)) := by
  have he := wsOf_get (cA := gC g) (ad := ga g) (lay := lay) (M := M) ho
  rw [hl] at he
  exact va_zald C.1.1 C.1.2.1 C.2.1 w.1 o 2 he rfl hin hdg kk
theorem q_ias (C : Cx p s m args c cc nL own g) (w : Wd g lay N H0 M H locs) {o n : Nat} {i v : Int32} (ho : o < N) (hl : lay o = .inr (.inl (0, n))) (hin : vp_in i n) (hdg : decode cc pc = .ok (.iastore, 1))
    (kk : ∀ (M1 : Mem) (H1 : Heap) (locs1 : List Loc), M1 = mu M o i.toNatClampNeg v → Wd g lay N H0 M1 H1 locs1 → W p l e R s m args below meth c H1 locs1 cells slots Qs (F0 m (pc + 1) ls rest)) : W p l e R s m args below meth c H locs cells slots Qs (F0 m pc ls (.int v :: .int i :: .ref (ga g o) :: rest)) := by
  have he := wsOf_get (cA := gC g) (ad := ga g) (lay := lay) (M := M) ho
  rw [hl] at he
  refine va_iast C.1.1 C.1.2.1 C.2.1 w.1 w.2.1 w.2.2 o 0 he rfl hin hdg (fun H1 locs1 hP hD hS => kk _ H1 locs1 rfl ?_)
  have e : (ga g o, (.inl (gC g 0, n, .inl (upd (M o) i.toNatClampNeg v)) : va_E)) = (ga g o, cellOf (gC g) (ga g) (lay o) (upd (M o) i.toNatClampNeg v)) := by
    rw [hl]
    rfl
  rw [e, wsOf_set] at hP hD
  exact ⟨hP, hD, hS⟩
theorem q_bas (C : Cx p s m args c cc nL own g) (w : Wd g lay N H0 M H locs) {o n : Nat} {i v : Int32} (ho : o < N) (hl : lay o = .inr (.inl (1, n))) (hin : vp_in i n) (hdg : decode cc pc = .ok (.bastore, 1))
    (kk : ∀ (M1 : Mem) (H1 : Heap) (locs1 : List Loc), M1 = mu M o i.toNatClampNeg (vp_nar .byte v) → Wd g lay N H0 M1 H1 locs1 → W p l e R s m args below meth c H1 locs1 cells slots Qs (F0 m (pc + 1) ls rest)) : W p l e R s m args below meth c H locs cells slots Qs (F0 m pc ls (.int v :: .int i :: .ref (ga g o) :: rest)) := by
  have he := wsOf_get (cA := gC g) (ad := ga g) (lay := lay) (M := M) ho
  rw [hl] at he
  refine va_bast C.1.1 C.1.2.1 C.2.1 w.1 w.2.1 w.2.2 o 1 he rfl hin hdg (fun H1 locs1 hP hD hS => kk _ H1 locs1 rfl ?_)
  have e : (ga g o, (.inl (gC g 1, n, .inl (upd (M o) i.toNatClampNeg (vp_nar .byte v))) : va_E)) = (ga g o, cellOf (gC g) (ga g) (lay o) (upd (M o) i.toNatClampNeg (vp_nar .byte v))) := by
    rw [hl]
    rfl
  rw [e, wsOf_set] at hP hD
  exact ⟨hP, hD, hS⟩
theorem q_zas (C : Cx p s m args c cc nL own g) (w : Wd g lay N H0 M H locs) {o n : Nat} {i v : Int32} (ho : o < N) (hl : lay o = .inr (.inl (2, n))) (hin : vp_in i n) (hdg : decode cc pc = .ok (.bastore, 1))
    (kk : ∀ (M1 : Mem) (H1 : Heap) (locs1 : List Loc), M1 = mu M o i.toNatClampNeg (vp_nar .boolean v) → Wd g lay N H0 M1 H1 locs1 → W p l e R s m args below meth c H1 locs1 cells slots Qs (F0 m (pc + 1) ls rest)) : W p l e R s m args below meth c H locs cells slots Qs (F0 m pc ls (.int v :: .int i :: .ref (ga g o) :: rest)) := by
  have he := wsOf_get (cA := gC g) (ad := ga g) (lay := lay) (M := M) ho
  rw [hl] at he
  refine va_zast C.1.1 C.1.2.1 C.2.1 w.1 w.2.1 w.2.2 o 2 he rfl hin hdg (fun H1 locs1 hP hD hS => kk _ H1 locs1 rfl ?_)
  have e : (ga g o, (.inl (gC g 2, n, .inl (upd (M o) i.toNatClampNeg (vp_nar .boolean v))) : va_E)) = (ga g o, cellOf (gC g) (ga g) (lay o) (upd (M o) i.toNatClampNeg (vp_nar .boolean v))) := by
    rw [hl]
    rfl
  rw [e, wsOf_set] at hP hD
  exact ⟨hP, hD, hS⟩
theorem q_alen (C : Cx p s m args c cc nL own g) (w : Wd g lay N H0 M H locs) {o n t : Nat} (ho : o < N) (hl : lay o = .inr (.inl (t, n))) (ht : t < 3) (hdg : decode cc pc = .ok (.arraylength, 1))
    (kk : W p l e R s m args below meth c H locs cells slots Qs (F0 m (pc + 1) ls (.int (nI n) :: rest))) : W p l e R s m args below meth c H locs cells slots Qs (F0 m pc ls (.ref (ga g o) :: rest)) := by
  have he := wsOf_get (cA := gC g) (ad := ga g) (lay := lay) (M := M) ho
  rw [hl] at he
  rcases (show t = 0 ∨ t = 1 ∨ t = 2 by omega) with rfl | rfl | rfl
  · exact va_alen C.1.1 C.1.2.1 C.2.1 w.1 o 0 he rfl rfl hdg kk
  · exact va_alen C.1.1 C.1.2.1 C.2.1 w.1 o 1 he rfl rfl hdg kk
  · exact va_alen C.1.1 C.1.2.1 C.2.1 w.1 o 2 he rfl rfl hdg kk
theorem q_aal (C : Cx p s m args c cc nL own g) (w : Wd g lay N H0 M H locs) {o n t : Nat} {r : Nat → Nat} {i : Int32} (ho : o < N) (hl : lay o = .inr (.inr (t, n, r))) (ht : t = 3 ∨ t = 4 ∨ t = 5) (hin : vp_in i n) (hdg : decode cc pc = .ok (.aaload, 1))
    (kk : W p l e R s m args below meth c H locs cells slots Qs (F0 m (pc + 1) ls (.ref (ga g (r i.toNatClampNeg)) :: rest))) : W p l e R s m args below meth c H locs cells slots Qs (F0 m pc ls (.int i :: .ref (ga g o) :: rest)) := by
  have he := wsOf_get (cA := gC g) (ad := ga g) (lay := lay) (M := M) ho
  rw [hl] at he
  have hlt : i.toNatClampNeg < n := Nat.not_le.mp fun q => hin (Or.inr q)
  rcases ht with rfl | rfl | rfl
  · exact va_aldq C.1.1 C.1.2.1 C.2.1 w.1 o 3 he rfl hin hdg kk
  · exact va_aldq C.1.1 C.1.2.1 C.2.1 w.1 o 4 he rfl hin hdg kk
  · exact W.aald (v := .ref (ga g (r i.toNatClampNeg))) (ty := .array .int) C.1.1 C.1.2.1 (w.1 o _ he) ((C.2.1.2 5 _ rfl).1 n (fun j => va_rf (some (ga g (r j))))) rfl (fun q => by cases q) (by show ¬ (i < 0 ∨ (arrV _ _ _).slots.size ≤ _); rw [arrV_size]; exact hin) (by show (arrV _ _ _).slots[_]? = _; rw [arrV_read _ _ hlt]; rfl) rfl rfl hdg kk
end BX
end
section
section BY
variable {p : Program} {l : Launch} {e : Env} {R : Room} {s : State} {m : MethodId} {args : Array Value} {below : List Frame} {meth : Method} {c : Code} {H : Heap} {locs : List Loc} {Qs : State → Prop}
variable {cc : ByteArray} {pc nL : Nat} {ls : Array Slot} {rest : List Value} {own : String} {g : Gt} {lay : Nat → Lay} {N : Nat} {M : Mem}
/-! a contract out of a walk of the body -/
abbrev Bdy (l : Launch) (y : MethodName) (cc : ByteArray) (nL : Nat) (rt : Option FieldType) (R : Room) (g : Gt) (lay : Nat → Lay) (N : Nat) (av : List Value) (M : Mem) (Qc : Array Value → State → Outcome → State → Prop) : Prop :=
  ∀ (p : Program) (e : Env) (s : State) (m : MethodId) (args : Array Value) (below : List Frame) (meth : Method) (c : Code) (ls : Array Slot), Cx p s m args c cc nL y.cls g → meth.sig.returnType = rt → meth.locks = false → Wd g lay N s.heap M s.heap [] → lv_has ls nL (lv_args 0 av) → W p l e R s m args below meth c s.heap [] 0 0 (MQ below Qc args s 0 0 (gF g)) (F0 m 0 ls [])
theorem m_of {y : MethodName} {rt : Option FieldType} {f L : Nat} {av : List Value} {Qc : Array Value → State → Outcome → State → Prop} (hy : plainName y.cls = true) (hn : (lg_sl av).length ≤ nL) (body : Bdy l y cc nL rt (rmOf f L) g lay N av M Qc) : Met l y (wsY y cc nL rt) (rmOf f L) (va_Pc av (PreW g lay N M)) Qc 0 0 (gF g) := by
  refine Met.ofW (cc := cc) (maxL := nL) (ret := rt) hy rfl ?_
  intro p e s m args below meth c s₁ B hml hv
  obtain ⟨rfl, hP, hD, hK, hSt⟩ := hv
  have hts := atoms_spec (ws := wsY y cc nL rt) B.pre
  have hown : s.vm.findClass y.cls = some m.cls := findClass_of_methodNamed B.named
  rw [lg_entry_eq]
  exact body p e s m _ below meth c _ ⟨⟨B.exec, B.bytes, hml, hown, fun w h => hts w (List.mem_cons_of_mem _ h)⟩, hK, hSt⟩ B.returns B.notSynchronized ⟨hP, hD, va_S.rf⟩ (lv_entry av hn)
/-! a method's end -/
theorem q_iret {Q : Int32 → Mem → Prop} {v : Int32} {rt : FieldType} (C : Cx p s m args c cc nL own g) (hr : meth.sig.returnType = some rt) (hlocks : meth.locks = false) (w : Wd g lay N s.heap M H locs) (hn : narrow rt (.int v) = .int v) (hq : Q v M) (hdg : decode cc pc = .ok (.ireturn, 1)) : W p l e R s m args below meth c H locs 0 0 (MQ below (va_Qi Q (PostW g lay N) (gF g)) args s 0 0 (gF g)) (F0 m pc ls [.int v]) :=
  W.zret C.1.1 C.1.2.1 hr hn (fun t ht _ => ⟨⟨v, M, rfl, hq, by rw [ht]; exact w.1, w.2.1⟩, w.2.2.F ht⟩) w.2.2.2.2 hdg hlocks
theorem q_lret {Q : Int64 → Mem → Prop} {v : Int64} (C : Cx p s m args c cc nL own g) (hr : meth.sig.returnType = some .long) (hlocks : meth.locks = false) (w : Wd g lay N s.heap M H locs) (hq : Q v M) (hdg : decode cc pc = .ok (.lreturn, 1)) : W p l e R s m args below meth c H locs 0 0 (MQ below (va_Ql Q (PostW g lay N) (gF g)) args s 0 0 (gF g)) (F0 m pc ls [.long v]) :=
  W.lret C.1.1 C.1.2.1 hr (fun t ht _ => ⟨⟨v, M, rfl, hq, by rw [ht]; exact w.1, w.2.1⟩, w.2.2.F ht⟩) w.2.2.2.2 hdg hlocks
theorem q_vret {Q : Mem → Prop} (C : Cx p s m args c cc nL own g) (hr : meth.sig.returnType = none) (hlocks : meth.locks = false) (w : Wd g lay N s.heap M H locs) (hq : Q M) (hdg : decode cc pc = .ok (.return_, 1)) : W p l e R s m args below meth c H locs 0 0 (MQ below (va_Qv Q (PostW g lay N) (gF g)) args s 0 0 (gF g)) (F0 m pc ls []) :=
  W.vret C.1.1 C.1.2.1 hr (fun t ht _ => ⟨⟨M, rfl, hq, by rw [ht]; exact w.1, w.2.1⟩, w.2.2.F ht⟩) w.2.2.2.2 hdg hlocks
theorem q_tret {Q : Nat → Mem → Prop} {i : Nat} {n : String} (C : Cx p s m args c cc nL own g) (hr : meth.sig.returnType = some (.object n)) (hlocks : meth.locks = false) (w : Wd g lay N s.heap M H locs) (hq : Q i M) (hdg : decode cc pc = .ok (.areturn, 1)) : W p l e R s m args below meth c H locs 0 0 (MQ below (va_Qr (fun u : Nat × Mem => Q u.1 u.2) (fun u a t => a = gK g u.1 ∧ PostW g lay N u.2 t) (gF g)) args s 0 0 (gF g)) (F0 m pc ls [.ref (gK g i)]) :=
  W.aret C.1.1 C.1.2.1 hr (Or.inl ⟨n, rfl⟩) (Or.inr ⟨_, rfl⟩) (fun t ht _ => ⟨⟨(i, M), gK g i, rfl, hq, rfl, by rw [ht]; exact w.1, w.2.1⟩, w.2.2.F ht⟩) w.2.2.2.2 hdg hlocks
/-! calls -/
/-- a method of an object, in the tables -/
def Kv (Cn : String) (y : MethodName) (cc : ByteArray) (nL : Nat) (rt : Option FieldType) (n : Nat) : Prop := (.instanceMethod y ∈ ALL ∧ .selects Cn y y ∈ ALL ∧ .initialized Cn ∈ ALL ∧ .code y cc nL rt ∈ ALL) ∧ (y.cls = Cn ∧ y.cls ≠ "java/lang/invoke/MethodHandle" ∧ y.cls ≠ "java/lang/invoke/VarHandle" ∧ (parseMethodDescriptor y.desc).map (fun d => d.parameters.length) = some n)
/-- a static method, in the tables -/
def Ks (y : MethodName) (cc : ByteArray) (nL : Nat) (rt : Option FieldType) (n : Nat) : Prop := (.static y ∈ ALL ∧ .initialized y.cls ∈ ALL ∧ .code y cc nL rt ∈ ALL) ∧ (y.cls ≠ "java/lang/invoke/MethodHandle" ∧ y.cls ≠ "java/lang/invoke/VarHandle" ∧ (parseMethodDescriptor y.desc).map (fun d => d.parameters.length) = some n)
variable {y : MethodName} {bc : ByteArray} {nB index n f L : Nat} {rt : Option FieldType} {Cn : String}
theorem cv_of (C : Cx p s m args c cc nL own g) (k : Kv Cn y bc nB rt n) (hlk : Cond.methodLink own index y ∈ ALL) (hR : f + 1 ≤ R.frames ∧ 8 + (nB + 11) + L ≤ R.locals) : CallW R s args own Cn index y bc nB rt (wsY y bc nB rt) (rmOf f L) 0 0 n := by
  obtain ⟨⟨k1, k2, k3, k4⟩, k5⟩ := k
  refine cwV n C.1.2.2.2.2 (good_cons hlk (good_cons k1 (good_cons k2 (good_cons k3 (good_cons k4 all_good))))) rfl rfl rfl k5 hR
theorem cs_of (C : Cx p s m args c cc nL own g) (k : Ks y bc nB rt n) (hlk : Cond.methodLink own index y ∈ ALL) (hR : f + 1 ≤ R.frames ∧ 8 + (nB + 11) + L ≤ R.locals) : CallB R s args own index y bc nB rt (wsY y bc nB rt) (rmOf f L) 0 0 n ∧ (Cond.static y).before args s = true := by
  obtain ⟨⟨k1, k2, k3⟩, k5⟩ := k
  exact va_cwS n C.1.2.2.2.2 (good_cons hlk (good_cons k1 (good_cons k2 (good_cons k3 all_good)))) rfl rfl rfl k5 hR
theorem rcv (C : Cx p s m args c cc nL own g) (w : Wd g lay N s.heap M H locs) {o ci n : Nat} {fs : List (Option Nat)} {Cn : String} {T : u_T} {ty : Nat → FieldType} (K : KC ci Cn T n ty) (ho : o < N) (hl : lay o = .inl (ci, fs)) : ∃ cell : Cell, H[ga g o]? = some cell ∧ cell.vm.isStatics = false ∧ s.vm.findClass Cn = some cell.cls := by
  have he := wsOf_get (cA := gC g) (ad := ga g) (lay := lay) (M := M) ho
  rw [hl] at he
  exact va_recv C.2.1 w.1 K.2.1 he
theorem rcvT (C : Cx p s m args c cc nL own g) (w : Wd g lay N s.heap M H locs) {i : Nat} (hi : i < 6) : ∃ cell : Cell, H[gK g i]? = some cell ∧ cell.vm.isStatics = false ∧ s.vm.findClass "java/lang/String" = some cell.cls := vk_recv C.2.2.1.2.2.2.2.1 hi w.2.2
theorem q_cVi {b : Nat} {Q : Int32 → Mem → Prop} (C : Cx p s m args c cc nL own g) (w : Wd g lay N s.heap M H locs) (As : List Value) (hM : MI l y bc nB rt f L g lay N (.ref b :: As) M Q) (k : Kv Cn y bc nB rt n) (hlk : Cond.methodLink own index y ∈ ALL) (hrc : ∃ cell : Cell, H[b]? = some cell ∧ cell.vm.isStatics = false ∧ s.vm.findClass Cn = some cell.cls) (hn : As.length = n) (hsz : ls.size = nL) (hW : (rest.map fun v => v.category).sum ≤ 8) (hR : f + 1 ≤ R.frames ∧ 8 + (nB + 11) + L ≤ R.locals) (hdg : decode cc pc = .ok (.invokevirtual index, 3))
    (kk : ∀ (r : Int32) (M1 : Mem) (H1 : Heap) (locs1 : List Loc), Q r M1 → Wd g lay N s.heap M1 H1 locs1 → W p l e R s m args below meth c H1 locs1 0 0 Qs (F0 m (pc + 3) ls (.int r :: rest))) : W p l e R s m args below meth c H locs 0 0 Qs (F0 m pc ls (As.reverse ++ .ref b :: rest)) := by
  refine va_calli (va_runV (As := As) (rest := rest) C.1 hM (cv_of C k hlk hR) ⟨PreW.blind, hrc, fun U hU hW => PreW.of C w hU hW⟩ rfl hn hsz rfl (lv_room hW) hdg ⟨Nat.zero_le _, Nat.zero_le _⟩) w.2.2 (fun _ _ h => h) (fun _ h => h) (fun r u t H1 locs1 ht hvm hw hB hz1 hk1 hS => ?_)
  obtain ⟨hP1, hD1⟩ := hB
  rw [ht] at hP1
  exact kk r u H1 locs1 hw ⟨hP1, hD1, hS⟩
theorem q_cVl {b : Nat} {Q : Int64 → Mem → Prop} (C : Cx p s m args c cc nL own g) (w : Wd g lay N s.heap M H locs) (As : List Value) (hM : ML l y bc nB rt f L g lay N (.ref b :: As) M Q) (k : Kv Cn y bc nB rt n) (hlk : Cond.methodLink own index y ∈ ALL) (hrc : ∃ cell : Cell, H[b]? = some cell ∧ cell.vm.isStatics = false ∧ s.vm.findClass Cn = some cell.cls) (hn : As.length = n) (hsz : ls.size = nL) (hW : (rest.map fun v => v.category).sum ≤ 8) (hR : f + 1 ≤ R.frames ∧ 8 + (nB + 11) + L ≤ R.locals) (hdg : decode cc pc = .ok (.invokevirtual index, 3))
    (kk : ∀ (r : Int64) (M1 : Mem) (H1 : Heap) (locs1 : List Loc), Q r M1 → Wd g lay N s.heap M1 H1 locs1 → W p l e R s m args below meth c H1 locs1 0 0 Qs (F0 m (pc + 3) ls (.long r :: rest))) : W p l e R s m args below meth c H locs 0 0 Qs (F0 m pc ls (As.reverse ++ .ref b :: rest)) := by
  refine va_calll (va_runV (As := As) (rest := rest) C.1 hM (cv_of C k hlk hR) ⟨PreW.blind, hrc, fun U hU hW => PreW.of C w hU hW⟩ rfl hn hsz rfl (lv_room hW) hdg ⟨Nat.zero_le _, Nat.zero_le _⟩) w.2.2 (fun _ _ h => h) (fun _ h => h) (fun r u t H1 locs1 ht hvm hw hB hz1 hk1 hS => ?_)
  obtain ⟨hP1, hD1⟩ := hB
  rw [ht] at hP1
  exact kk r u H1 locs1 hw ⟨hP1, hD1, hS⟩
theorem q_cVv {b : Nat} {Q : Mem → Prop} (C : Cx p s m args c cc nL own g) (w : Wd g lay N s.heap M H locs) (As : List Value) (hM : MV l y bc nB rt f L g lay N (.ref b :: As) M Q) (k : Kv Cn y bc nB rt n) (hlk : Cond.methodLink own index y ∈ ALL) (hrc : ∃ cell : Cell, H[b]? = some cell ∧ cell.vm.isStatics = false ∧ s.vm.findClass Cn = some cell.cls) (hn : As.length = n) (hsz : ls.size = nL) (hW : (rest.map fun v => v.category).sum ≤ 8) (hR : f + 1 ≤ R.frames ∧ 8 + (nB + 11) + L ≤ R.locals) (hdg : decode cc pc = .ok (.invokevirtual index, 3))
    (kk : ∀ (M1 : Mem) (H1 : Heap) (locs1 : List Loc), Q M1 → Wd g lay N s.heap M1 H1 locs1 → W p l e R s m args below meth c H1 locs1 0 0 Qs (F0 m (pc + 3) ls rest)) : W p l e R s m args below meth c H locs 0 0 Qs (F0 m pc ls (As.reverse ++ .ref b :: rest)) := by
  refine va_callv (va_runV (As := As) (rest := rest) C.1 hM (cv_of C k hlk hR) ⟨PreW.blind, hrc, fun U hU hW => PreW.of C w hU hW⟩ rfl hn hsz rfl (lv_room hW) hdg ⟨Nat.zero_le _, Nat.zero_le _⟩) w.2.2 (fun _ _ h => h) (fun _ h => h) (fun u t H1 locs1 ht hvm hw hB hz1 hk1 hS => ?_)
  obtain ⟨hP1, hD1⟩ := hB
  rw [ht] at hP1
  exact kk u H1 locs1 hw ⟨hP1, hD1, hS⟩
theorem q_cSi {Q : Int32 → Mem → Prop} (C : Cx p s m args c cc nL own g) (w : Wd g lay N s.heap M H locs) (As : List Value) (hM : MI l y bc nB rt f L g lay N As M Q) (k : Ks y bc nB rt n) (hlk : Cond.methodLink own index y ∈ ALL) (hn : As.length = n) (hsz : ls.size = nL) (hW : (rest.map fun v => v.category).sum ≤ 8) (hR : f + 1 ≤ R.frames ∧ 8 + (nB + 11) + L ≤ R.locals) (hdg : decode cc pc = .ok (.invokestatic index, 3))
    (kk : ∀ (r : Int32) (M1 : Mem) (H1 : Heap) (locs1 : List Loc), Q r M1 → Wd g lay N s.heap M1 H1 locs1 → W p l e R s m args below meth c H1 locs1 0 0 Qs (F0 m (pc + 3) ls (.int r :: rest))) : W p l e R s m args below meth c H locs 0 0 Qs (F0 m pc ls (As.reverse ++ rest)) := by
  refine va_calli (va_runS (As := As) (rest := rest) C.1 hM (cs_of C k hlk hR) ⟨PreW.blind, fun U hU hW => PreW.of C w hU hW⟩ rfl hn hsz rfl (lv_room hW) hdg ⟨Nat.zero_le _, Nat.zero_le _⟩) w.2.2 (fun _ _ h => h) (fun _ h => h) (fun r u t H1 locs1 ht hvm hw hB hz1 hk1 hS => ?_)
  obtain ⟨hP1, hD1⟩ := hB
  rw [ht] at hP1
  exact kk r u H1 locs1 hw ⟨hP1, hD1, hS⟩
theorem q_cSl {Q : Int64 → Mem → Prop} (C : Cx p s m args c cc nL own g) (w : Wd g lay N s.heap M H locs) (As : List Value) (hM : ML l y bc nB rt f L g lay N As M Q) (k : Ks y bc nB rt n) (hlk : Cond.methodLink own index y ∈ ALL) (hn : As.length = n) (hsz : ls.size = nL) (hW : (rest.map fun v => v.category).sum ≤ 8) (hR : f + 1 ≤ R.frames ∧ 8 + (nB + 11) + L ≤ R.locals) (hdg : decode cc pc = .ok (.invokestatic index, 3))
    (kk : ∀ (r : Int64) (M1 : Mem) (H1 : Heap) (locs1 : List Loc), Q r M1 → Wd g lay N s.heap M1 H1 locs1 → W p l e R s m args below meth c H1 locs1 0 0 Qs (F0 m (pc + 3) ls (.long r :: rest))) : W p l e R s m args below meth c H locs 0 0 Qs (F0 m pc ls (As.reverse ++ rest)) := by
  refine va_calll (va_runS (As := As) (rest := rest) C.1 hM (cs_of C k hlk hR) ⟨PreW.blind, fun U hU hW => PreW.of C w hU hW⟩ rfl hn hsz rfl (lv_room hW) hdg ⟨Nat.zero_le _, Nat.zero_le _⟩) w.2.2 (fun _ _ h => h) (fun _ h => h) (fun r u t H1 locs1 ht hvm hw hB hz1 hk1 hS => ?_)
  obtain ⟨hP1, hD1⟩ := hB
  rw [ht] at hP1
  exact kk r u H1 locs1 hw ⟨hP1, hD1, hS⟩
theorem q_cSv {Q : Mem → Prop} (C : Cx p s m args c cc nL own g) (w : Wd g lay N s.heap M H locs) (As : List Value) (hM : MV l y bc nB rt f L g lay N As M Q) (k : Ks y bc nB rt n) (hlk : Cond.methodLink own index y ∈ ALL) (hn : As.length = n) (hsz : ls.size = nL) (hW : (rest.map fun v => v.category).sum ≤ 8) (hR : f + 1 ≤ R.frames ∧ 8 + (nB + 11) + L ≤ R.locals) (hdg : decode cc pc = .ok (.invokestatic index, 3))
    (kk : ∀ (M1 : Mem) (H1 : Heap) (locs1 : List Loc), Q M1 → Wd g lay N s.heap M1 H1 locs1 → W p l e R s m args below meth c H1 locs1 0 0 Qs (F0 m (pc + 3) ls rest)) : W p l e R s m args below meth c H locs 0 0 Qs (F0 m pc ls (As.reverse ++ rest)) := by
  refine va_callv (va_runS (As := As) (rest := rest) C.1 hM (cs_of C k hlk hR) ⟨PreW.blind, fun U hU hW => PreW.of C w hU hW⟩ rfl hn hsz rfl (lv_room hW) hdg ⟨Nat.zero_le _, Nat.zero_le _⟩) w.2.2 (fun _ _ h => h) (fun _ h => h) (fun u t H1 locs1 ht hvm hw hB hz1 hk1 hS => ?_)
  obtain ⟨hP1, hD1⟩ := hB
  rw [ht] at hP1
  exact kk u H1 locs1 hw ⟨hP1, hD1, hS⟩
theorem q_cSt {Q : Nat → Mem → Prop} (C : Cx p s m args c cc nL own g) (w : Wd g lay N s.heap M H locs) (As : List Value) (hM : MT l y bc nB rt f L g lay N As M Q) (k : Ks y bc nB rt n) (hlk : Cond.methodLink own index y ∈ ALL) (hn : As.length = n) (hsz : ls.size = nL) (hW : (rest.map fun v => v.category).sum ≤ 8) (hR : f + 1 ≤ R.frames ∧ 8 + (nB + 11) + L ≤ R.locals) (hdg : decode cc pc = .ok (.invokestatic index, 3))
    (kk : ∀ (i : Nat) (M1 : Mem) (H1 : Heap) (locs1 : List Loc), Q i M1 → Wd g lay N s.heap M1 H1 locs1 → W p l e R s m args below meth c H1 locs1 0 0 Qs (F0 m (pc + 3) ls (.ref (gK g i) :: rest))) : W p l e R s m args below meth c H locs 0 0 Qs (F0 m pc ls (As.reverse ++ rest)) := by
  refine va_callr (va_runS (As := As) (rest := rest) C.1 hM (cs_of C k hlk hR) ⟨PreW.blind, fun U hU hW => PreW.of C w hU hW⟩ rfl hn hsz rfl (lv_room hW) hdg ⟨Nat.zero_le _, Nat.zero_le _⟩) w.2.2 (fun _ _ h => h) (fun _ h => h) (fun u ra t H1 locs1 ht hvm hw hB hz1 hk1 hS => ?_)
  obtain ⟨rfl, hP1, hD1⟩ := hB
  rw [ht] at hP1
  exact kk u.1 u.2 H1 locs1 hw ⟨hP1, hD1, hS⟩
end BY
end
section
def irm (x y : Int32) : Int32 := x - x / y * y
def lrm (x y : Int64) : Int64 := x - x / y * y
def sl (x y : Int32) : Int32 := x <<< (y &&& 31)
def sr (x y : Int32) : Int32 := x >>> (y &&& 31)
def su (x y : Int32) : Int32 := (x.toUInt32 >>> (y.toUInt32 &&& Int32.toUInt32 31)).toInt32
section BZ
variable {p : Program} {l : Launch} {e : Env} {R : Room} {s : State} {m : MethodId} {args : Array Value} {below : List Frame} {meth : Method} {c : Code} {H : Heap} {locs : List Loc} {Qs : State → Prop}
variable {cc : ByteArray} {pc nL index : Nat} {ls : Array Slot} {rest : List Value} {own : String} {g : Gt} {lay : Nat → Lay} {N : Nat} {M : Mem}
theorem q_gsT (C : Cx p s m args c cc nL own g) (w : Wd g lay N s.heap M H locs) (hlk : Cond.fieldLink own index RX0 "TAKES_BY_KIND" "[I" ∈ ALL) (hdg : decode cc pc = .ok (.getstatic index, 3))
    (kk : W p l e R s m args below meth c H locs 0 0 Qs (F0 m (pc + 3) ls (.ref (gT g).1 :: rest))) : W p l e R s m args below meth c H locs 0 0 Qs (F0 m pc ls rest) :=
  va_gets C.1.1 C.1.2.1 C.2.2.1.1 w.2.2 C.1.2.2.2.1 (C.1.2.2.2.2 _ hlk) (fun _ h => h) hdg kk
theorem q_gsN (C : Cx p s m args c cc nL own g) (w : Wd g lay N s.heap M H locs) (hlk : Cond.fieldLink own index RX0 "NOISE_BY_KIND" "[I" ∈ ALL) (hdg : decode cc pc = .ok (.getstatic index, 3))
    (kk : W p l e R s m args below meth c H locs 0 0 Qs (F0 m (pc + 3) ls (.ref (gT g).2 :: rest))) : W p l e R s m args below meth c H locs 0 0 Qs (F0 m pc ls rest) :=
  va_gets C.1.1 C.1.2.1 C.2.2.1.2.2.1 w.2.2 C.1.2.2.2.1 (C.1.2.2.2.2 _ hlk) (fun _ h => h) hdg kk
theorem q_ldT (C : Cx p s m args c cc nL own g) (w : Wd g lay N s.heap M H locs) {i : Int32} (hin : vp_in i 4) (hdg : decode cc pc = .ok (.iaload, 1))
    (kk : W p l e R s m args below meth c H locs 0 0 Qs (F0 m (pc + 1) ls (.int (takesT i.toNatClampNeg) :: rest))) : W p l e R s m args below meth c H locs 0 0 Qs (F0 m pc ls (.int i :: .ref (gT g).1 :: rest)) :=
  va_ti C.1.1 C.1.2.1 C.2.2.1.2.1 w.2.2 hin rfl hdg kk
theorem q_ldN (C : Cx p s m args c cc nL own g) (w : Wd g lay N s.heap M H locs) {i : Int32} (hin : vp_in i 4) (hdg : decode cc pc = .ok (.iaload, 1))
    (kk : W p l e R s m args below meth c H locs 0 0 Qs (F0 m (pc + 1) ls (.int (noiseT i.toNatClampNeg) :: rest))) : W p l e R s m args below meth c H locs 0 0 Qs (F0 m pc ls (.int i :: .ref (gT g).2 :: rest)) :=
  va_ti C.1.1 C.1.2.1 C.2.2.1.2.2.2.1 w.2.2 hin rfl hdg kk
/-- a text constant, by its place -/
theorem q_ldS (C : Cx p s m args c cc nL own g) {i : Nat} {tx : String} (hZ : vk_R own index tx (gK g i) s) (hdg : decode cc pc = .ok (.ldc index, 2))
    (kk : W p l e R s m args below meth c H locs 0 0 Qs (F0 m (pc + 2) ls (.ref (gK g i) :: rest))) : W p l e R s m args below meth c H locs 0 0 Qs (F0 m pc ls rest) :=
  va_ldcS C.1.1 C.1.2.1 C.1.2.2.2.1 hZ hdg kk
theorem q_ldc (C : Cx p s m args c cc nL own g) {v : Int32} (hk : Cond.constant own index v ∈ ALL) (hdg : decode cc pc = .ok (.ldc index, 2))
    (kk : W p l e R s m args below meth c H locs 0 0 Qs (F0 m (pc + 2) ls (.int v :: rest))) : W p l e R s m args below meth c H locs 0 0 Qs (F0 m pc ls rest) :=
  lv_ldc C.1.1 C.1.2.1 C.1.2.2.2.1 (C.1.2.2.2.2 _ hk) hdg kk
theorem q_ldcw (C : Cx p s m args c cc nL own g) {v : Int32} (hk : Cond.constant own index v ∈ ALL) (hdg : decode cc pc = .ok (.ldc_w index, 3))
    (kk : W p l e R s m args below meth c H locs 0 0 Qs (F0 m (pc + 3) ls (.int v :: rest))) : W p l e R s m args below meth c H locs 0 0 Qs (F0 m pc ls rest) :=
  lv_ldcw C.1.1 C.1.2.1 C.1.2.2.2.1 (C.1.2.2.2.2 _ hk) hdg kk
theorem q_ldc2 (C : Cx p s m args c cc nL own g) {v : Int64} (hk : Cond.constantLong own index v ∈ ALL) (hdg : decode cc pc = .ok (.ldc2_w index, 3))
    (kk : W p l e R s m args below meth c H locs 0 0 Qs (F0 m (pc + 3) ls (.long v :: rest))) : W p l e R s m args below meth c H locs 0 0 Qs (F0 m pc ls rest) :=
  lv_ldc2 C.1.1 C.1.2.1 C.1.2.2.2.1 (C.1.2.2.2.2 _ hk) hdg kk
def kMin : Prop := Cond.static Lib.Math.min.name ∈ ALL ∧ Cond.initialized "java/lang/Math" ∈ ALL ∧ Cond.code Lib.Math.min.name Lib.Math.min.code 2 (some .int) ∈ ALL
def kMax : Prop := Cond.static Lib.Math.max.name ∈ ALL ∧ Cond.initialized "java/lang/Math" ∈ ALL ∧ Cond.code Lib.Math.max.name Lib.Math.max.code 2 (some .int) ∈ ALL
theorem q_min (C : Cx p s m args c cc nL own g) (k : kMin) (hlk : Cond.methodLink own index Lib.Math.min.name ∈ ALL) (hsz : ls.size = nL) {x y : Int32} (hR : 1 ≤ R.frames ∧ (rest.map fun v => v.category).sum + 13 ≤ R.locals) (hdg : decode cc pc = .ok (.invokestatic index, 3))
    (kk : W p l e R s m args below meth c H locs 0 0 Qs (F0 m (pc + 3) ls (.int (if y < x then y else x) :: rest))) : W p l e R s m args below meth c H locs 0 0 Qs (F0 m pc ls (.int y :: .int x :: rest)) :=
  va_mmin C.1.1 C.1.2.1 (C.1.2.2.1.trans hsz.symm) C.1.2.2.2.1 (C.1.2.2.2.2 _ hlk) (C.1.2.2.2.2 _ k.1) (C.1.2.2.2.2 _ k.2.1) (C.1.2.2.2.2 _ k.2.2) hR.1 hR.2 (Nat.zero_le _) (Nat.zero_le _) hdg kk
theorem q_max (C : Cx p s m args c cc nL own g) (k : kMax) (hlk : Cond.methodLink own index Lib.Math.max.name ∈ ALL) (hsz : ls.size = nL) {x y : Int32} (hR : 1 ≤ R.frames ∧ (rest.map fun v => v.category).sum + 13 ≤ R.locals) (hdg : decode cc pc = .ok (.invokestatic index, 3))
    (kk : W p l e R s m args below meth c H locs 0 0 Qs (F0 m (pc + 3) ls (.int (if x < y then y else x) :: rest))) : W p l e R s m args below meth c H locs 0 0 Qs (F0 m pc ls (.int y :: .int x :: rest)) :=
  va_mmax C.1.1 C.1.2.1 (C.1.2.2.1.trans hsz.symm) C.1.2.2.2.1 (C.1.2.2.2.2 _ hlk) (C.1.2.2.2.2 _ k.1) (C.1.2.2.2.2 _ k.2.1) (C.1.2.2.2.2 _ k.2.2) hR.1 hR.2 (Nat.zero_le _) (Nat.zero_le _) hdg kk
def kCopy : Prop := Cond.native arraycopyName ∈ ALL ∧ Cond.static arraycopyName ∈ ALL ∧ Cond.initialized "java/lang/System" ∈ ALL
/-- what arraycopy wants of its numbers -/
def cpOk (sp dp n : Int32) (n0 n1 : Nat) : Prop := ¬ sp < 0 ∧ ¬ dp < 0 ∧ ¬ n < 0 ∧ sp.toNatClampNeg + n.toNatClampNeg ≤ n0 ∧ dp.toNatClampNeg + n.toNatClampNeg ≤ n1
def mc (M : Mem) (o0 : Nat) (sp : Int32) (o1 : Nat) (dp n : Int32) : Mem := mr M o1 (va_cpy (M o0) (M o1) sp.toNatClampNeg dp.toNatClampNeg n.toNatClampNeg)
theorem q_copy (C : Cx p s m args c cc nL own g) (w : Wd g lay N s.heap M H locs) (k : kCopy) (hlk : Cond.methodLink own index arraycopyName ∈ ALL) (hsz : ls.size = nL) {o0 o1 n0 n1 : Nat} {sp dp n : Int32} (ho0 : o0 < N) (hl0 : lay o0 = .inr (.inl (0, n0))) (ho1 : o1 < N) (hl1 : lay o1 = .inr (.inl (0, n1))) (hok : cpOk sp dp n n0 n1) (hR : 1 ≤ R.frames ∧ (rest.map fun v => v.category).sum + (nativeFrameWords "java/lang/System" "arraycopy" 5 + 11) ≤ R.locals) (hdg : decode cc pc = .ok (.invokestatic index, 3))
    (kk : ∀ (M1 : Mem) (H1 : Heap) (locs1 : List Loc), M1 = mc M o0 sp o1 dp n → Wd g lay N s.heap M1 H1 locs1 → W p l e R s m args below meth c H1 locs1 0 0 Qs (F0 m (pc + 3) ls rest)) : W p l e R s m args below meth c H locs 0 0 Qs (F0 m pc ls (.int n :: .int dp :: .ref (ga g o1) :: .int sp :: .ref (ga g o0) :: rest)) := by
  have he0 := wsOf_get (cA := gC g) (ad := ga g) (lay := lay) (M := M) ho0
  rw [hl0] at he0
  have he1 := wsOf_get (cA := gC g) (ad := ga g) (lay := lay) (M := M) ho1
  rw [hl1] at he1
  obtain ⟨h1, h2, h3, h4, h5⟩ := hok
  refine va_copyi C.1.1 C.1.2.1 (C.1.2.2.1.trans hsz.symm) C.1.2.2.2.1 (C.1.2.2.2.2 _ hlk) (C.1.2.2.2.2 _ k.1) (C.1.2.2.2.2 _ k.2.1) (C.1.2.2.2.2 _ k.2.2) C.2.1 w.1 w.2.1 w.2.2 o0 o1 0 0 he0 he1 (ty := .int) rfl rfl rfl h1 h2 h3 h4 h5 (fun _ _ => rfl) hR.1 hR.2 hdg (fun H1 locs1 hP hD hS => kk _ H1 locs1 rfl ?_)
  have e : (ga g o1, (.inl (gC g 0, n1, .inl (va_cpy (M o0) (M o1) sp.toNatClampNeg dp.toNatClampNeg n.toNatClampNeg)) : va_E)) = (ga g o1, cellOf (gC g) (ga g) (lay o1) (va_cpy (M o0) (M o1) sp.toNatClampNeg dp.toNatClampNeg n.toNatClampNeg)) := by
    rw [hl1]
    rfl
  rw [e, wsOf_set] at hP hD
  exact ⟨hP, hD, hS⟩
/-! arithmetic under names of its own -/
theorem q_irem (C : Cx p s m args c cc nL own g) {x y : Int32} (hdg : decode cc pc = .ok (.irem, 1)) (hne : ¬ y = 0) (kk : W p l e R s m args below meth c H locs 0 0 Qs (F0 m (pc + 1) ls (.int (irm x y) :: rest))) : W p l e R s m args below meth c H locs 0 0 Qs (F0 m pc ls (.int y :: .int x :: rest)) := lv_irem C.1.1 C.1.2.1 hdg hne kk
theorem q_lrem (C : Cx p s m args c cc nL own g) {x y : Int64} (hdg : decode cc pc = .ok (.lrem, 1)) (hne : ¬ y = 0) (kk : W p l e R s m args below meth c H locs 0 0 Qs (F0 m (pc + 1) ls (.long (lrm x y) :: rest))) : W p l e R s m args below meth c H locs 0 0 Qs (F0 m pc ls (.long y :: .long x :: rest)) := lv_lrem C.1.1 C.1.2.1 hdg hne kk
theorem q_ishl (C : Cx p s m args c cc nL own g) {x y : Int32} (hdg : decode cc pc = .ok (.ishl, 1)) (kk : W p l e R s m args below meth c H locs 0 0 Qs (F0 m (pc + 1) ls (.int (sl x y) :: rest))) : W p l e R s m args below meth c H locs 0 0 Qs (F0 m pc ls (.int y :: .int x :: rest)) := lv_ishl C.1.1 C.1.2.1 hdg kk
theorem q_ishr (C : Cx p s m args c cc nL own g) {x y : Int32} (hdg : decode cc pc = .ok (.ishr, 1)) (kk : W p l e R s m args below meth c H locs 0 0 Qs (F0 m (pc + 1) ls (.int (sr x y) :: rest))) : W p l e R s m args below meth c H locs 0 0 Qs (F0 m pc ls (.int y :: .int x :: rest)) := lv_ishr C.1.1 C.1.2.1 hdg kk
theorem q_iushr (C : Cx p s m args c cc nL own g) {x y : Int32} (hdg : decode cc pc = .ok (.iushr, 1)) (kk : W p l e R s m args below meth c H locs 0 0 Qs (F0 m (pc + 1) ls (.int (su x y) :: rest))) : W p l e R s m args below meth c H locs 0 0 Qs (F0 m pc ls (.int y :: .int x :: rest)) := lv_iushr C.1.1 C.1.2.1 hdg rfl kk
/-- a switch by a table: one of its numbers -/
theorem q_tin (C : Cx p s m args c cc nL own g) {dflt lo hi : Int} {offs : Array Int} {len : Nat} {x k : Int32} {off : Int} {tgt : Nat} (hdg : decode cc pc = .ok (.tableswitch dflt lo hi offs, len)) (hx : x = k) (h1 : ¬ k.toInt < lo) (h2 : ¬ hi < k.toInt) (ho : offs[(k.toInt - lo).toNat]? = some off) (ht : (pc : Int) + off = (tgt : Int)) (kk : W p l e R s m args below meth c H locs 0 0 Qs (F0 m tgt ls rest)) : W p l e R s m args below meth c H locs 0 0 Qs (F0 m pc ls (.int x :: rest)) := by
  subst hx
  exact lv_tableIn C.1.1 C.1.2.1 hdg h1 h2 ho ht kk
theorem q_tout (C : Cx p s m args c cc nL own g) {dflt lo hi : Int} {offs : Array Int} {len : Nat} {x : Int32} {tgt : Nat} (hdg : decode cc pc = .ok (.tableswitch dflt lo hi offs, len)) (h : x.toInt < lo ∨ hi < x.toInt) (ht : (pc : Int) + dflt = (tgt : Int)) (kk : W p l e R s m args below meth c H locs 0 0 Qs (F0 m tgt ls rest)) : W p l e R s m args below meth c H locs 0 0 Qs (F0 m pc ls (.int x :: rest)) := lv_tableOut C.1.1 C.1.2.1 hdg h ht kk
end BZ
/-! loops, by a bound on their rounds -/
def fu1 {A1 : Type} (F : (A1 → Prop) → A1 → Prop) : Nat → A1 → Prop
  | 0, _ => False
  | n + 1, a1 => F (fu1 F n) a1
def fu2 {A1 A2 : Type} (F : (A1 → A2 → Prop) → A1 → A2 → Prop) : Nat → A1 → A2 → Prop
  | 0, _, _ => False
  | n + 1, a1, a2 => F (fu2 F n) a1 a2
def fu3 {A1 A2 A3 : Type} (F : (A1 → A2 → A3 → Prop) → A1 → A2 → A3 → Prop) : Nat → A1 → A2 → A3 → Prop
  | 0, _, _, _ => False
  | n + 1, a1, a2, a3 => F (fu3 F n) a1 a2 a3
def fu4 {A1 A2 A3 A4 : Type} (F : (A1 → A2 → A3 → A4 → Prop) → A1 → A2 → A3 → A4 → Prop) : Nat → A1 → A2 → A3 → A4 → Prop
  | 0, _, _, _, _ => False
  | n + 1, a1, a2, a3, a4 => F (fu4 F n) a1 a2 a3 a4
def fu5 {A1 A2 A3 A4 A5 : Type} (F : (A1 → A2 → A3 → A4 → A5 → Prop) → A1 → A2 → A3 → A4 → A5 → Prop) : Nat → A1 → A2 → A3 → A4 → A5 → Prop
  | 0, _, _, _, _, _ => False
  | n + 1, a1, a2, a3, a4, a5 => F (fu5 F n) a1 a2 a3 a4 a5
def fu6 {A1 A2 A3 A4 A5 A6 : Type} (F : (A1 → A2 → A3 → A4 → A5 → A6 → Prop) → A1 → A2 → A3 → A4 → A5 → A6 → Prop) : Nat → A1 → A2 → A3 → A4 → A5 → A6 → Prop
  | 0, _, _, _, _, _, _ => False
  | n + 1, a1, a2, a3, a4, a5, a6 => F (fu6 F n) a1 a2 a3 a4 a5 a6
def fu7 {A1 A2 A3 A4 A5 A6 A7 : Type} (F : (A1 → A2 → A3 → A4 → A5 → A6 → A7 → Prop) → A1 → A2 → A3 → A4 → A5 → A6 → A7 → Prop) : Nat → A1 → A2 → A3 → A4 → A5 → A6 → A7 → Prop
  | 0, _, _, _, _, _, _, _ => False
  | n + 1, a1, a2, a3, a4, a5, a6, a7 => F (fu7 F n) a1 a2 a3 a4 a5 a6 a7
def fu8 {A1 A2 A3 A4 A5 A6 A7 A8 : Type} (F : (A1 → A2 → A3 → A4 → A5 → A6 → A7 → A8 → Prop) → A1 → A2 → A3 → A4 → A5 → A6 → A7 → A8 → Prop) : Nat → A1 → A2 → A3 → A4 → A5 → A6 → A7 → A8 → Prop
  | 0, _, _, _, _, _, _, _, _ => False
  | n + 1, a1, a2, a3, a4, a5, a6, a7, a8 => F (fu8 F n) a1 a2 a3 a4 a5 a6 a7 a8
end
