section
-- ===== PART A: goes FIRST, ahead of the names: the tables' words, and 'selects' of the private methods out of them =====
/-- a private method of a class that the tables say can be made, by its rows of tables_1 -/
def lw_okq (q : MethodName × Nat) : Prop := (q.1.cls ≠ "java/lang/invoke/MethodHandle" ∧ q.1.cls ≠ "java/lang/invoke/VarHandle") ∧ Cond.instantiable q.1.cls q.2 ∈ tables_1 ∧ Cond.privateMethod q.1 ∈ tables_1 ∧ Cond.instanceMethod q.1 ∈ tables_1
theorem lw_p0 : lw_okq (⟨"EveningPoach$TapeReader", "readToken", "()Z"⟩, 8) := ⟨⟨by decide +kernel, by decide +kernel⟩, List.mem_of_getElem? (i := 151) (by decide +kernel), List.mem_of_getElem? (i := 299) (by decide +kernel), List.mem_of_getElem? (i := 300) (by decide +kernel)⟩
theorem lw_p1 : lw_okq (⟨"EveningPoach$TapeReader", "placeBehindAll", "(III)I"⟩, 8) := ⟨⟨by decide +kernel, by decide +kernel⟩, List.mem_of_getElem? (i := 151) (by decide +kernel), List.mem_of_getElem? (i := 303) (by decide +kernel), List.mem_of_getElem? (i := 304) (by decide +kernel)⟩
theorem lw_p2 : lw_okq (⟨"EveningPoach$TapeReader", "takeFigures", "()Z"⟩, 8) := ⟨⟨by decide +kernel, by decide +kernel⟩, List.mem_of_getElem? (i := 151) (by decide +kernel), List.mem_of_getElem? (i := 311) (by decide +kernel), List.mem_of_getElem? (i := 312) (by decide +kernel)⟩
theorem lw_p3 : lw_okq (⟨"EveningPoach$TapeReader", "refuse", "(I)Z"⟩, 8) := ⟨⟨by decide +kernel, by decide +kernel⟩, List.mem_of_getElem? (i := 151) (by decide +kernel), List.mem_of_getElem? (i := 315) (by decide +kernel), List.mem_of_getElem? (i := 316) (by decide +kernel)⟩
theorem lw_p4 : lw_okq (⟨"EveningPoach$TapeReader", "readLine", "(LEveningPoach$Estate;)Z"⟩, 8) := ⟨⟨by decide +kernel, by decide +kernel⟩, List.mem_of_getElem? (i := 151) (by decide +kernel), List.mem_of_getElem? (i := 319) (by decide +kernel), List.mem_of_getElem? (i := 320) (by decide +kernel)⟩
theorem lw_p5 : lw_okq (⟨"EveningPoach$TapeReader", "isName", "(Ljava/lang/String;)Z"⟩, 8) := ⟨⟨by decide +kernel, by decide +kernel⟩, List.mem_of_getElem? (i := 151) (by decide +kernel), List.mem_of_getElem? (i := 330) (by decide +kernel), List.mem_of_getElem? (i := 331) (by decide +kernel)⟩
theorem lw_p6 : lw_okq (⟨"EveningPoach$TapeReader", "readTaker", "(LEveningPoach$Estate;I)Z"⟩, 8) := ⟨⟨by decide +kernel, by decide +kernel⟩, List.mem_of_getElem? (i := 151) (by decide +kernel), List.mem_of_getElem? (i := 382) (by decide +kernel), List.mem_of_getElem? (i := 383) (by decide +kernel)⟩
theorem lw_p7 : lw_okq (⟨"EveningPoach$TapeReader", "readNumber", "(II)Z"⟩, 8) := ⟨⟨by decide +kernel, by decide +kernel⟩, List.mem_of_getElem? (i := 151) (by decide +kernel), List.mem_of_getElem? (i := 386) (by decide +kernel), List.mem_of_getElem? (i := 387) (by decide +kernel)⟩
theorem lw_p8 : lw_okq (⟨"EveningPoach$TapeReader", "readSemicolonBehind", "()Z"⟩, 8) := ⟨⟨by decide +kernel, by decide +kernel⟩, List.mem_of_getElem? (i := 151) (by decide +kernel), List.mem_of_getElem? (i := 390) (by decide +kernel), List.mem_of_getElem? (i := 391) (by decide +kernel)⟩
theorem lw_p9 : lw_okq (⟨"EveningPoach$TapeReader", "readKeeper", "(LEveningPoach$Estate;)Z"⟩, 8) := ⟨⟨by decide +kernel, by decide +kernel⟩, List.mem_of_getElem? (i := 151) (by decide +kernel), List.mem_of_getElem? (i := 399) (by decide +kernel), List.mem_of_getElem? (i := 400) (by decide +kernel)⟩
theorem lw_p10 : lw_okq (⟨"EveningPoach$TapeReader", "readGate", "(LEveningPoach$Estate;)Z"⟩, 8) := ⟨⟨by decide +kernel, by decide +kernel⟩, List.mem_of_getElem? (i := 151) (by decide +kernel), List.mem_of_getElem? (i := 408) (by decide +kernel), List.mem_of_getElem? (i := 409) (by decide +kernel)⟩
theorem lw_p11 : lw_okq (⟨"EveningPoach", "isNoTaker", "(I)Z"⟩, 11) := ⟨⟨by decide +kernel, by decide +kernel⟩, List.mem_of_getElem? (i := 18) (by decide +kernel), List.mem_of_getElem? (i := 479) (by decide +kernel), List.mem_of_getElem? (i := 480) (by decide +kernel)⟩
theorem lw_p12 : lw_okq (⟨"EveningPoach", "isNoKeeper", "(I)Z"⟩, 11) := ⟨⟨by decide +kernel, by decide +kernel⟩, List.mem_of_getElem? (i := 18) (by decide +kernel), List.mem_of_getElem? (i := 494) (by decide +kernel), List.mem_of_getElem? (i := 495) (by decide +kernel)⟩
theorem lw_p13 : lw_okq (⟨"EveningPoach$Estate", "seize", "(I)V"⟩, 14) := ⟨⟨by decide +kernel, by decide +kernel⟩, List.mem_of_getElem? (i := 26) (by decide +kernel), List.mem_of_getElem? (i := 535) (by decide +kernel), List.mem_of_getElem? (i := 536) (by decide +kernel)⟩
theorem lw_p14 : lw_okq (⟨"EveningPoach$Estate", "fillBag", "(I)I"⟩, 14) := ⟨⟨by decide +kernel, by decide +kernel⟩, List.mem_of_getElem? (i := 26) (by decide +kernel), List.mem_of_getElem? (i := 542) (by decide +kernel), List.mem_of_getElem? (i := 543) (by decide +kernel)⟩
theorem lw_p15 : lw_okq (⟨"EveningPoach", "fullestBag", "(I[IIII)I"⟩, 11) := ⟨⟨by decide +kernel, by decide +kernel⟩, List.mem_of_getElem? (i := 18) (by decide +kernel), List.mem_of_getElem? (i := 595) (by decide +kernel), List.mem_of_getElem? (i := 596) (by decide +kernel)⟩
def lw_privs_1 : List (MethodName × Nat) := [(⟨"EveningPoach$TapeReader", "readToken", "()Z"⟩, 8), (⟨"EveningPoach$TapeReader", "placeBehindAll", "(III)I"⟩, 8), (⟨"EveningPoach$TapeReader", "takeFigures", "()Z"⟩, 8), (⟨"EveningPoach$TapeReader", "refuse", "(I)Z"⟩, 8), (⟨"EveningPoach$TapeReader", "readLine", "(LEveningPoach$Estate;)Z"⟩, 8), (⟨"EveningPoach$TapeReader", "isName", "(Ljava/lang/String;)Z"⟩, 8), (⟨"EveningPoach$TapeReader", "readTaker", "(LEveningPoach$Estate;I)Z"⟩, 8), (⟨"EveningPoach$TapeReader", "readNumber", "(II)Z"⟩, 8), (⟨"EveningPoach$TapeReader", "readSemicolonBehind", "()Z"⟩, 8), (⟨"EveningPoach$TapeReader", "readKeeper", "(LEveningPoach$Estate;)Z"⟩, 8), (⟨"EveningPoach$TapeReader", "readGate", "(LEveningPoach$Estate;)Z"⟩, 8), (⟨"EveningPoach", "isNoTaker", "(I)Z"⟩, 11), (⟨"EveningPoach", "isNoKeeper", "(I)Z"⟩, 11), (⟨"EveningPoach$Estate", "seize", "(I)V"⟩, 14), (⟨"EveningPoach$Estate", "fillBag", "(I)I"⟩, 14), (⟨"EveningPoach", "fullestBag", "(I[IIII)I"⟩, 11)]
theorem lw_r1 : ∀ q ∈ lw_privs_1, lw_okq q := List.forall_mem_cons.mpr ⟨lw_p0, List.forall_mem_cons.mpr ⟨lw_p1, List.forall_mem_cons.mpr ⟨lw_p2, List.forall_mem_cons.mpr ⟨lw_p3, List.forall_mem_cons.mpr ⟨lw_p4, List.forall_mem_cons.mpr ⟨lw_p5, List.forall_mem_cons.mpr ⟨lw_p6, List.forall_mem_cons.mpr ⟨lw_p7, List.forall_mem_cons.mpr ⟨lw_p8, List.forall_mem_cons.mpr ⟨lw_p9, List.forall_mem_cons.mpr ⟨lw_p10, List.forall_mem_cons.mpr ⟨lw_p11, List.forall_mem_cons.mpr ⟨lw_p12, List.forall_mem_cons.mpr ⟨lw_p13, List.forall_mem_cons.mpr ⟨lw_p14, List.forall_mem_cons.mpr ⟨lw_p15, fun _ h => absurd h List.not_mem_nil⟩⟩⟩⟩⟩⟩⟩⟩⟩⟩⟩⟩⟩⟩⟩⟩
theorem lw_p16 : lw_okq (⟨"EveningPoach", "takenInHazes", "(II)I"⟩, 11) := ⟨⟨by decide +kernel, by decide +kernel⟩, List.mem_of_getElem? (i := 18) (by decide +kernel), List.mem_of_getElem? (i := 646) (by decide +kernel), List.mem_of_getElem? (i := 647) (by decide +kernel)⟩
theorem lw_p17 : lw_okq (⟨"EveningPoach", "fittingBits", "(I[II)I"⟩, 11) := ⟨⟨by decide +kernel, by decide +kernel⟩, List.mem_of_getElem? (i := 18) (by decide +kernel), List.mem_of_getElem? (i := 666) (by decide +kernel), List.mem_of_getElem? (i := 667) (by decide +kernel)⟩
theorem lw_p18 : lw_okq (⟨"EveningPoach$Sightings", "latestNight", "()I"⟩, 4) := ⟨⟨by decide +kernel, by decide +kernel⟩, List.mem_of_getElem? (i := 184) (by decide +kernel), List.mem_of_getElem? (i := 674) (by decide +kernel), List.mem_of_getElem? (i := 675) (by decide +kernel)⟩
theorem lw_p19 : lw_okq (⟨"EveningPoach$Sightings", "fitBehind", "(ILEveningPoach$Estate;)Z"⟩, 4) := ⟨⟨by decide +kernel, by decide +kernel⟩, List.mem_of_getElem? (i := 184) (by decide +kernel), List.mem_of_getElem? (i := 681) (by decide +kernel), List.mem_of_getElem? (i := 682) (by decide +kernel)⟩
theorem lw_p20 : lw_okq (⟨"EveningPoach", "sendTaker", "(II)Z"⟩, 11) := ⟨⟨by decide +kernel, by decide +kernel⟩, List.mem_of_getElem? (i := 18) (by decide +kernel), List.mem_of_getElem? (i := 759) (by decide +kernel), List.mem_of_getElem? (i := 760) (by decide +kernel)⟩
theorem lw_p21 : lw_okq (⟨"EveningPoachModel", "step", "()V"⟩, 28) := ⟨⟨by decide +kernel, by decide +kernel⟩, List.mem_of_getElem? (i := 779) (by decide +kernel), List.mem_of_getElem? (i := 886) (by decide +kernel), List.mem_of_getElem? (i := 887) (by decide +kernel)⟩
theorem lw_p22 : lw_okq (⟨"EveningPoachModel", "byteAt", "(I)I"⟩, 28) := ⟨⟨by decide +kernel, by decide +kernel⟩, List.mem_of_getElem? (i := 779) (by decide +kernel), List.mem_of_getElem? (i := 890) (by decide +kernel), List.mem_of_getElem? (i := 891) (by decide +kernel)⟩
theorem lw_p23 : lw_okq (⟨"EveningPoachModel", "fails", "(I)V"⟩, 28) := ⟨⟨by decide +kernel, by decide +kernel⟩, List.mem_of_getElem? (i := 779) (by decide +kernel), List.mem_of_getElem? (i := 898) (by decide +kernel), List.mem_of_getElem? (i := 899) (by decide +kernel)⟩
theorem lw_p24 : lw_okq (⟨"EveningPoachModel", "readLine", "()V"⟩, 28) := ⟨⟨by decide +kernel, by decide +kernel⟩, List.mem_of_getElem? (i := 779) (by decide +kernel), List.mem_of_getElem? (i := 902) (by decide +kernel), List.mem_of_getElem? (i := 903) (by decide +kernel)⟩
theorem lw_p25 : lw_okq (⟨"EveningPoachModel", "nameHere", "()I"⟩, 28) := ⟨⟨by decide +kernel, by decide +kernel⟩, List.mem_of_getElem? (i := 779) (by decide +kernel), List.mem_of_getElem? (i := 906) (by decide +kernel), List.mem_of_getElem? (i := 907) (by decide +kernel)⟩
theorem lw_p26 : lw_okq (⟨"EveningPoachModel", "readMore", "(I)V"⟩, 28) := ⟨⟨by decide +kernel, by decide +kernel⟩, List.mem_of_getElem? (i := 779) (by decide +kernel), List.mem_of_getElem? (i := 911) (by decide +kernel), List.mem_of_getElem? (i := 912) (by decide +kernel)⟩
theorem lw_p27 : lw_okq (⟨"EveningPoachModel", "number", "(II)I"⟩, 28) := ⟨⟨by decide +kernel, by decide +kernel⟩, List.mem_of_getElem? (i := 779) (by decide +kernel), List.mem_of_getElem? (i := 915) (by decide +kernel), List.mem_of_getElem? (i := 916) (by decide +kernel)⟩
theorem lw_p28 : lw_okq (⟨"EveningPoachModel", "isHeardOn", "(II)Z"⟩, 28) := ⟨⟨by decide +kernel, by decide +kernel⟩, List.mem_of_getElem? (i := 779) (by decide +kernel), List.mem_of_getElem? (i := 927) (by decide +kernel), List.mem_of_getElem? (i := 928) (by decide +kernel)⟩
theorem lw_p29 : lw_okq (⟨"EveningPoachModel", "atOn", "(II)I"⟩, 28) := ⟨⟨by decide +kernel, by decide +kernel⟩, List.mem_of_getElem? (i := 779) (by decide +kernel), List.mem_of_getElem? (i := 931) (by decide +kernel), List.mem_of_getElem? (i := 932) (by decide +kernel)⟩
theorem lw_p30 : lw_okq (⟨"EveningPoachModel", "noiseOn", "(II)I"⟩, 28) := ⟨⟨by decide +kernel, by decide +kernel⟩, List.mem_of_getElem? (i := 779) (by decide +kernel), List.mem_of_getElem? (i := 935) (by decide +kernel), List.mem_of_getElem? (i := 936) (by decide +kernel)⟩
theorem lw_p31 : lw_okq (⟨"EveningPoachModel", "lightOn", "(I)I"⟩, 28) := ⟨⟨by decide +kernel, by decide +kernel⟩, List.mem_of_getElem? (i := 779) (by decide +kernel), List.mem_of_getElem? (i := 939) (by decide +kernel), List.mem_of_getElem? (i := 940) (by decide +kernel)⟩
def lw_privs_2 : List (MethodName × Nat) := [(⟨"EveningPoach", "takenInHazes", "(II)I"⟩, 11), (⟨"EveningPoach", "fittingBits", "(I[II)I"⟩, 11), (⟨"EveningPoach$Sightings", "latestNight", "()I"⟩, 4), (⟨"EveningPoach$Sightings", "fitBehind", "(ILEveningPoach$Estate;)Z"⟩, 4), (⟨"EveningPoach", "sendTaker", "(II)Z"⟩, 11), (⟨"EveningPoachModel", "step", "()V"⟩, 28), (⟨"EveningPoachModel", "byteAt", "(I)I"⟩, 28), (⟨"EveningPoachModel", "fails", "(I)V"⟩, 28), (⟨"EveningPoachModel", "readLine", "()V"⟩, 28), (⟨"EveningPoachModel", "nameHere", "()I"⟩, 28), (⟨"EveningPoachModel", "readMore", "(I)V"⟩, 28), (⟨"EveningPoachModel", "number", "(II)I"⟩, 28), (⟨"EveningPoachModel", "isHeardOn", "(II)Z"⟩, 28), (⟨"EveningPoachModel", "atOn", "(II)I"⟩, 28), (⟨"EveningPoachModel", "noiseOn", "(II)I"⟩, 28), (⟨"EveningPoachModel", "lightOn", "(I)I"⟩, 28)]
theorem lw_r2 : ∀ q ∈ lw_privs_2, lw_okq q := List.forall_mem_cons.mpr ⟨lw_p16, List.forall_mem_cons.mpr ⟨lw_p17, List.forall_mem_cons.mpr ⟨lw_p18, List.forall_mem_cons.mpr ⟨lw_p19, List.forall_mem_cons.mpr ⟨lw_p20, List.forall_mem_cons.mpr ⟨lw_p21, List.forall_mem_cons.mpr ⟨lw_p22, List.forall_mem_cons.mpr ⟨lw_p23, List.forall_mem_cons.mpr ⟨lw_p24, List.forall_mem_cons.mpr ⟨lw_p25, List.forall_mem_cons.mpr ⟨lw_p26, List.forall_mem_cons.mpr ⟨lw_p27, List.forall_mem_cons.mpr ⟨lw_p28, List.forall_mem_cons.mpr ⟨lw_p29, List.forall_mem_cons.mpr ⟨lw_p30, List.forall_mem_cons.mpr ⟨lw_p31, fun _ h => absurd h List.not_mem_nil⟩⟩⟩⟩⟩⟩⟩⟩⟩⟩⟩⟩⟩⟩⟩⟩
theorem lw_p32 : lw_okq (⟨"EveningPoachModel", "isTaker", "(I)Z"⟩, 28) := ⟨⟨by decide +kernel, by decide +kernel⟩, List.mem_of_getElem? (i := 779) (by decide +kernel), List.mem_of_getElem? (i := 955) (by decide +kernel), List.mem_of_getElem? (i := 956) (by decide +kernel)⟩
theorem lw_p33 : lw_okq (⟨"EveningPoachModel", "takesOn", "(II)I"⟩, 28) := ⟨⟨by decide +kernel, by decide +kernel⟩, List.mem_of_getElem? (i := 779) (by decide +kernel), List.mem_of_getElem? (i := 959) (by decide +kernel), List.mem_of_getElem? (i := 960) (by decide +kernel)⟩
theorem lw_p34 : lw_okq (⟨"EveningPoachModel", "isKeeper", "(I)Z"⟩, 28) := ⟨⟨by decide +kernel, by decide +kernel⟩, List.mem_of_getElem? (i := 779) (by decide +kernel), List.mem_of_getElem? (i := 967) (by decide +kernel), List.mem_of_getElem? (i := 968) (by decide +kernel)⟩
theorem lw_p35 : lw_okq (⟨"EveningPoachModel", "alters", "(III)I"⟩, 28) := ⟨⟨by decide +kernel, by decide +kernel⟩, List.mem_of_getElem? (i := 779) (by decide +kernel), List.mem_of_getElem? (i := 975) (by decide +kernel), List.mem_of_getElem? (i := 976) (by decide +kernel)⟩
theorem lw_p36 : lw_okq (⟨"EveningPoachModel", "puts", "(ZIII)I"⟩, 28) := ⟨⟨by decide +kernel, by decide +kernel⟩, List.mem_of_getElem? (i := 779) (by decide +kernel), List.mem_of_getElem? (i := 980) (by decide +kernel), List.mem_of_getElem? (i := 981) (by decide +kernel)⟩
theorem lw_p37 : lw_okq (⟨"EveningPoachModel", "hiresOn", "(IIII)V"⟩, 28) := ⟨⟨by decide +kernel, by decide +kernel⟩, List.mem_of_getElem? (i := 779) (by decide +kernel), List.mem_of_getElem? (i := 1002) (by decide +kernel), List.mem_of_getElem? (i := 1003) (by decide +kernel)⟩
theorem lw_p38 : lw_okq (⟨"EveningPoachModel", "startCounts", "()V"⟩, 28) := ⟨⟨by decide +kernel, by decide +kernel⟩, List.mem_of_getElem? (i := 779) (by decide +kernel), List.mem_of_getElem? (i := 1015) (by decide +kernel), List.mem_of_getElem? (i := 1016) (by decide +kernel)⟩
theorem lw_p39 : lw_okq (⟨"EveningPoachModel", "nightOn", "(IZ)V"⟩, 28) := ⟨⟨by decide +kernel, by decide +kernel⟩, List.mem_of_getElem? (i := 779) (by decide +kernel), List.mem_of_getElem? (i := 1019) (by decide +kernel), List.mem_of_getElem? (i := 1020) (by decide +kernel)⟩
theorem lw_p40 : lw_okq (⟨"EveningPoachModel", "goesIn", "(IIZ)V"⟩, 28) := ⟨⟨by decide +kernel, by decide +kernel⟩, List.mem_of_getElem? (i := 779) (by decide +kernel), List.mem_of_getElem? (i := 1023) (by decide +kernel), List.mem_of_getElem? (i := 1024) (by decide +kernel)⟩
theorem lw_p41 : lw_okq (⟨"EveningPoachModel", "nightsGo", "(II)I"⟩, 28) := ⟨⟨by decide +kernel, by decide +kernel⟩, List.mem_of_getElem? (i := 779) (by decide +kernel), List.mem_of_getElem? (i := 1032) (by decide +kernel), List.mem_of_getElem? (i := 1033) (by decide +kernel)⟩
theorem lw_p42 : lw_okq (⟨"EveningPoachModel", "copies", "(II)V"⟩, 28) := ⟨⟨by decide +kernel, by decide +kernel⟩, List.mem_of_getElem? (i := 779) (by decide +kernel), List.mem_of_getElem? (i := 1036) (by decide +kernel), List.mem_of_getElem? (i := 1037) (by decide +kernel)⟩
theorem lw_p43 : lw_okq (⟨"EveningPoachModel", "byHaze", "(IIII)J"⟩, 28) := ⟨⟨by decide +kernel, by decide +kernel⟩, List.mem_of_getElem? (i := 779) (by decide +kernel), List.mem_of_getElem? (i := 1087) (by decide +kernel), List.mem_of_getElem? (i := 1088) (by decide +kernel)⟩
theorem lw_p44 : lw_okq (⟨"EveningPoachModel", "isAsSeen", "(I)Z"⟩, 28) := ⟨⟨by decide +kernel, by decide +kernel⟩, List.mem_of_getElem? (i := 779) (by decide +kernel), List.mem_of_getElem? (i := 1112) (by decide +kernel), List.mem_of_getElem? (i := 1113) (by decide +kernel)⟩
theorem lw_p45 : lw_okq (⟨"EveningPoachModel", "gatesOf", "(I)I"⟩, 28) := ⟨⟨by decide +kernel, by decide +kernel⟩, List.mem_of_getElem? (i := 779) (by decide +kernel), List.mem_of_getElem? (i := 1120) (by decide +kernel), List.mem_of_getElem? (i := 1121) (by decide +kernel)⟩
theorem lw_p46 : lw_okq (⟨"EveningPoachModel", "worstAt", "(II)I"⟩, 28) := ⟨⟨by decide +kernel, by decide +kernel⟩, List.mem_of_getElem? (i := 779) (by decide +kernel), List.mem_of_getElem? (i := 1128) (by decide +kernel), List.mem_of_getElem? (i := 1129) (by decide +kernel)⟩
def lw_privs_3 : List (MethodName × Nat) := [(⟨"EveningPoachModel", "isTaker", "(I)Z"⟩, 28), (⟨"EveningPoachModel", "takesOn", "(II)I"⟩, 28), (⟨"EveningPoachModel", "isKeeper", "(I)Z"⟩, 28), (⟨"EveningPoachModel", "alters", "(III)I"⟩, 28), (⟨"EveningPoachModel", "puts", "(ZIII)I"⟩, 28), (⟨"EveningPoachModel", "hiresOn", "(IIII)V"⟩, 28), (⟨"EveningPoachModel", "startCounts", "()V"⟩, 28), (⟨"EveningPoachModel", "nightOn", "(IZ)V"⟩, 28), (⟨"EveningPoachModel", "goesIn", "(IIZ)V"⟩, 28), (⟨"EveningPoachModel", "nightsGo", "(II)I"⟩, 28), (⟨"EveningPoachModel", "copies", "(II)V"⟩, 28), (⟨"EveningPoachModel", "byHaze", "(IIII)J"⟩, 28), (⟨"EveningPoachModel", "isAsSeen", "(I)Z"⟩, 28), (⟨"EveningPoachModel", "gatesOf", "(I)I"⟩, 28), (⟨"EveningPoachModel", "worstAt", "(II)I"⟩, 28)]
theorem lw_r3 : ∀ q ∈ lw_privs_3, lw_okq q := List.forall_mem_cons.mpr ⟨lw_p32, List.forall_mem_cons.mpr ⟨lw_p33, List.forall_mem_cons.mpr ⟨lw_p34, List.forall_mem_cons.mpr ⟨lw_p35, List.forall_mem_cons.mpr ⟨lw_p36, List.forall_mem_cons.mpr ⟨lw_p37, List.forall_mem_cons.mpr ⟨lw_p38, List.forall_mem_cons.mpr ⟨lw_p39, List.forall_mem_cons.mpr ⟨lw_p40, List.forall_mem_cons.mpr ⟨lw_p41, List.forall_mem_cons.mpr ⟨lw_p42, List.forall_mem_cons.mpr ⟨lw_p43, List.forall_mem_cons.mpr ⟨lw_p44, List.forall_mem_cons.mpr ⟨lw_p45, List.forall_mem_cons.mpr ⟨lw_p46, fun _ h => absurd h List.not_mem_nil⟩⟩⟩⟩⟩⟩⟩⟩⟩⟩⟩⟩⟩⟩⟩
def lw_privs : List (MethodName × Nat) := lw_privs_1 ++ (lw_privs_2 ++ (lw_privs_3))
def lw_tbl : List Cond := k2_sels lw_privs ++ tables_1
theorem lw_privs_ok : ∀ q ∈ lw_privs, lw_okq q := by
  show ∀ q ∈ lw_privs_1 ++ (lw_privs_2 ++ (lw_privs_3)), lw_okq q
  exact List.forall_mem_append.mpr ⟨lw_r1, List.forall_mem_append.mpr ⟨lw_r2, lw_r3⟩⟩
end
section
/-! ===== BEGIN words of one list among another's, by their places ===== -/
theorem goodIn_r {big : List Cond} (ws : List Cond) (ps : List Nat) (hp : ws = ps.filterMap (fun i => big[i]?)) (h : ws.all goodWord = true) : GoodIn big ws := by
  intro w hw
  have h1 := List.all_eq_true.mp h w hw
  rw [hp] at hw
  obtain ⟨i, -, hi⟩ := List.mem_filterMap.mp hw
  have hm : w ∈ big := by first | exact List.mem_of_getElem? hi | exact List.getElem?_mem hi
  exact ⟨hm, good_of_word h1⟩
theorem goodIn_app {big a b : List Cond} (ha : GoodIn big a) (hb : GoodIn big b) : GoodIn big (a ++ b) := fun w h => (List.mem_append.mp h).elim (ha w) (hb w)
theorem goodIn_ca {big a b : List Cond} {c : Cond} (ha : GoodIn big (c :: a)) (hb : GoodIn big b) : GoodIn big (c :: (a ++ b)) := fun w h => (List.mem_cons.mp h).elim (fun e => ha w (List.mem_cons.mpr (Or.inl e))) (fun h => (List.mem_append.mp h).elim (fun h => ha w (List.mem_cons.mpr (Or.inr h))) (hb w))
theorem goodIn_sub {big ws : List Cond} (hm : ∀ w ∈ ws, w ∈ big) (h : ws.all goodWord = true) : GoodIn big ws := fun w hw => ⟨hm w hw, good_of_word (List.all_eq_true.mp h w hw)⟩
/-! ===== END ===== -/


/-! ===== BEGIN printed: names, fields, word lists, decode rows ===== -/
def RX0 : String := "EveningPoach$Estate"
def TX0 : u_T := fun k => match k with
  | 0 => ("EveningPoach$Estate", "light", "[I", true)
  | 1 => ("EveningPoach$Estate", "growth", "[I", true)
  | 2 => ("EveningPoach$Estate", "kindOf", "[I", true)
  | 3 => ("EveningPoach$Estate", "gateOf", "[I", true)
  | 4 => ("EveningPoach$Estate", "bag", "[I", true)
  | 5 => ("EveningPoach$Estate", "held", "[I", true)
  | 6 => ("EveningPoach$Estate", "start", "[I", true)
  | 7 => ("EveningPoach$Estate", "step", "[I", true)
  | 8 => ("EveningPoach$Estate", "ear", "[I", true)
  | 9 => ("EveningPoach$Estate", "takers", "I", false)
  | 10 => ("EveningPoach$Estate", "keepers", "I", false)
  | 11 => ("EveningPoach$Estate", "night", "I", false)
  | 12 => ("EveningPoach$Estate", "catches", "I", false)
  | _ => ("EveningPoach$Estate", "latestCaughtBits", "I", false)
def tyX0 : Nat → FieldType := fun k => match k with
  | 0 => .array .int
  | 1 => .array .int
  | 2 => .array .int
  | 3 => .array .int
  | 4 => .array .int
  | 5 => .array .int
  | 6 => .array .int
  | 7 => .array .int
  | 8 => .array .int
  | 9 => .int
  | 10 => .int
  | 11 => .int
  | 12 => .int
  | _ => .int
abbrev wsX00 : List Cond := u_ws RX0 TX0 14
theorem nmX0 : ∀ a, a < 14 → ∀ b, b < 14 → a ≠ b → (TX0 a).2.1 ≠ (TX0 b).2.1 := by decide +kernel
theorem tyX0_ok : ∀ k, k < 14 → parseFieldDescriptor (TX0 k).2.2.1 = some (tyX0 k) := by decide +kernel
abbrev cX0_init : ByteArray := prog_2_method_1_code
def yX0_init : MethodName := ⟨RX0, "<init>", "()V"⟩
abbrev cX0_clear : ByteArray := prog_2_method_2_code
def yX0_clear : MethodName := ⟨RX0, "clear", "()V"⟩
abbrev cX0_copyFrom : ByteArray := prog_2_method_3_code
def yX0_copyFrom : MethodName := ⟨RX0, "copyFrom", "(LEveningPoach$Estate;)V"⟩
abbrev cX0_addTaker : ByteArray := prog_2_method_4_code
def yX0_addTaker : MethodName := ⟨RX0, "addTaker", "(II)Z"⟩
abbrev cX0_addKeeper : ByteArray := prog_2_method_5_code
def yX0_addKeeper : MethodName := ⟨RX0, "addKeeper", "(III)Z"⟩
abbrev cX0_takes : ByteArray := prog_2_method_6_code
def yX0_takes : MethodName := ⟨RX0, "takes", "(I)I"⟩
abbrev cX0_noise : ByteArray := prog_2_method_7_code
def yX0_noise : MethodName := ⟨RX0, "noise", "(I)I"⟩
abbrev cX0_placeOf : ByteArray := prog_2_method_8_code
def yX0_placeOf : MethodName := ⟨RX0, "placeOf", "(I)I"⟩
abbrev cX0_wouldBeCaught : ByteArray := prog_2_method_9_code
def yX0_wouldBeCaught : MethodName := ⟨RX0, "wouldBeCaught", "(I)Z"⟩
abbrev cX0_passNight : ByteArray := prog_2_method_10_code
def yX0_passNight : MethodName := ⟨RX0, "passNight", "(Z)I"⟩
abbrev cX0_seize : ByteArray := prog_2_method_11_code
def yX0_seize : MethodName := ⟨RX0, "seize", "(I)V"⟩
abbrev cX0_fillBag : ByteArray := prog_2_method_12_code
def yX0_fillBag : MethodName := ⟨RX0, "fillBag", "(I)I"⟩
abbrev cX0_lightOfAll : ByteArray := prog_2_method_13_code
def yX0_lightOfAll : MethodName := ⟨RX0, "lightOfAll", "()I"⟩
abbrev cX0_growthOfAll : ByteArray := prog_2_method_14_code
def yX0_growthOfAll : MethodName := ⟨RX0, "growthOfAll", "()I"⟩
abbrev cX0_bagsOfAll : ByteArray := prog_2_method_15_code
def yX0_bagsOfAll : MethodName := ⟨RX0, "bagsOfAll", "()I"⟩
abbrev cX0_earsOfAll : ByteArray := prog_2_method_16_code
def yX0_earsOfAll : MethodName := ⟨RX0, "earsOfAll", "()I"⟩
abbrev cX0_sum : ByteArray := prog_2_method_17_code
def yX0_sum : MethodName := ⟨RX0, "sum", "([II)I"⟩
abbrev cX0_heldBits : ByteArray := prog_2_method_18_code
def yX0_heldBits : MethodName := ⟨RX0, "heldBits", "()I"⟩
abbrev cX0_nextCaughtBits : ByteArray := prog_2_method_19_code
def yX0_nextCaughtBits : MethodName := ⟨RX0, "nextCaughtBits", "()I"⟩
abbrev cX0_takerBitsAt : ByteArray := prog_2_method_20_code
def yX0_takerBitsAt : MethodName := ⟨RX0, "takerBitsAt", "(I)I"⟩
abbrev cX0_keeperBitsAt : ByteArray := prog_2_method_21_code
def yX0_keeperBitsAt : MethodName := ⟨RX0, "keeperBitsAt", "(I)I"⟩
def RX1 : String := "EveningPoach$Outlook"
def TX1 : u_T := fun k => match k with
  | 0 => ("EveningPoach$Outlook", "light", "[[I", true)
  | _ => ("EveningPoach$Outlook", "count", "I", false)
def tyX1 : Nat → FieldType := fun k => match k with
  | 0 => .array (.array .int)
  | _ => .int
abbrev wsX10 : List Cond := u_ws RX1 TX1 2
theorem nmX1 : ∀ a, a < 2 → ∀ b, b < 2 → a ≠ b → (TX1 a).2.1 ≠ (TX1 b).2.1 := by decide +kernel
theorem tyX1_ok : ∀ k, k < 2 → parseFieldDescriptor (TX1 k).2.2.1 = some (tyX1 k) := by decide +kernel
abbrev cX1_init : ByteArray := prog_3_method_1_code
def yX1_init : MethodName := ⟨RX1, "<init>", "()V"⟩
abbrev cX1_clear : ByteArray := prog_3_method_2_code
def yX1_clear : MethodName := ⟨RX1, "clear", "()V"⟩
abbrev cX1_add : ByteArray := prog_3_method_3_code
def yX1_add : MethodName := ⟨RX1, "add", "(LEveningPoach$Trial;)V"⟩
abbrev cX1_leftAtWorst : ByteArray := prog_3_method_4_code
def yX1_leftAtWorst : MethodName := ⟨RX1, "leftAtWorst", "(II)I"⟩
def RX2 : String := "EveningPoach$Sheet"
def TX2 : u_T := fun k => match k with
  | 0 => ("EveningPoach$Sheet", "cells", "[I", true)
  | 1 => ("EveningPoach$Sheet", "size", "I", false)
  | _ => ("EveningPoach$Sheet", "lane", "I", false)
def tyX2 : Nat → FieldType := fun k => match k with
  | 0 => .array .int
  | 1 => .int
  | _ => .int
abbrev wsX20 : List Cond := u_ws RX2 TX2 3
theorem nmX2 : ∀ a, a < 3 → ∀ b, b < 3 → a ≠ b → (TX2 a).2.1 ≠ (TX2 b).2.1 := by decide +kernel
theorem tyX2_ok : ∀ k, k < 3 → parseFieldDescriptor (TX2 k).2.2.1 = some (tyX2 k) := by decide +kernel
abbrev cX2_init : ByteArray := prog_4_method_1_code
def yX2_init : MethodName := ⟨RX2, "<init>", "()V"⟩
abbrev cX2_isNothing : ByteArray := prog_4_method_2_code
def yX2_isNothing : MethodName := ⟨RX2, "isNothing", "()Z"⟩
abbrev cX2_renew : ByteArray := prog_4_method_3_code
def yX2_renew : MethodName := ⟨RX2, "renew", "(II)V"⟩
abbrev cX2_lacks : ByteArray := prog_4_method_4_code
def yX2_lacks : MethodName := ⟨RX2, "lacks", "(I)Z"⟩
abbrev cX2_put : ByteArray := prog_4_method_5_code
def yX2_put : MethodName := ⟨RX2, "put", "(II)Z"⟩
abbrev cX2_faultAs : ByteArray := prog_4_method_6_code
def yX2_faultAs : MethodName := ⟨RX2, "faultAs", "(I)I"⟩
def RX3 : String := "EveningPoach$Sightings"
def TX3 : u_T := fun k => match k with
  | 0 => ("EveningPoach$Sightings", "night", "[I", true)
  | 1 => ("EveningPoach$Sightings", "place", "[I", true)
  | 2 => ("EveningPoach$Sightings", "light", "[I", true)
  | _ => ("EveningPoach$Sightings", "count", "I", false)
def tyX3 : Nat → FieldType := fun k => match k with
  | 0 => .array .int
  | 1 => .array .int
  | 2 => .array .int
  | _ => .int
abbrev wsX30 : List Cond := u_ws RX3 TX3 4
theorem nmX3 : ∀ a, a < 4 → ∀ b, b < 4 → a ≠ b → (TX3 a).2.1 ≠ (TX3 b).2.1 := by decide +kernel
theorem tyX3_ok : ∀ k, k < 4 → parseFieldDescriptor (TX3 k).2.2.1 = some (tyX3 k) := by decide +kernel
abbrev cX3_init : ByteArray := prog_5_method_1_code
def yX3_init : MethodName := ⟨RX3, "<init>", "()V"⟩
abbrev cX3_add : ByteArray := prog_5_method_2_code
def yX3_add : MethodName := ⟨RX3, "add", "(III)Z"⟩
abbrev cX3_fit : ByteArray := prog_5_method_3_code
def yX3_fit : MethodName := ⟨RX3, "fit", "(LEveningPoach$Trial;)Z"⟩
abbrev cX3_latestNight : ByteArray := prog_5_method_4_code
def yX3_latestNight : MethodName := ⟨RX3, "latestNight", "()I"⟩
abbrev cX3_fitBehind : ByteArray := prog_5_method_5_code
def yX3_fitBehind : MethodName := ⟨RX3, "fitBehind", "(ILEveningPoach$Estate;)Z"⟩
def RX4 : String := "EveningPoach$Tape"
def TX4 : u_T := fun k => match k with
  | 0 => ("EveningPoach$Tape", "bytes", "[B", true)
  | _ => ("EveningPoach$Tape", "length", "I", false)
def tyX4 : Nat → FieldType := fun k => match k with
  | 0 => .array .byte
  | _ => .int
abbrev wsX40 : List Cond := u_ws RX4 TX4 2
theorem nmX4 : ∀ a, a < 2 → ∀ b, b < 2 → a ≠ b → (TX4 a).2.1 ≠ (TX4 b).2.1 := by decide +kernel
theorem tyX4_ok : ∀ k, k < 2 → parseFieldDescriptor (TX4 k).2.2.1 = some (tyX4 k) := by decide +kernel
abbrev cX4_init : ByteArray := prog_6_method_1_code
def yX4_init : MethodName := ⟨RX4, "<init>", "()V"⟩
abbrev cX4_append : ByteArray := prog_6_method_2_code
def yX4_append : MethodName := ⟨RX4, "append", "(I)Z"⟩
abbrev cX4_isBetween : ByteArray := prog_6_method_3_code
def yX4_isBetween : MethodName := ⟨RX4, "isBetween", "(III)Z"⟩
def RX5 : String := "EveningPoach$TapeReader"
def TX5 : u_T := fun k => match k with
  | 0 => ("EveningPoach$TapeReader", "tape", "LEveningPoach$Tape;", true)
  | 1 => ("EveningPoach$TapeReader", "sort", "I", false)
  | 2 => ("EveningPoach$TapeReader", "first", "I", false)
  | 3 => ("EveningPoach$TapeReader", "behind", "I", false)
  | 4 => ("EveningPoach$TapeReader", "number", "I", false)
  | 5 => ("EveningPoach$TapeReader", "gatesTold", "I", false)
  | 6 => ("EveningPoach$TapeReader", "fault", "I", false)
  | _ => ("EveningPoach$TapeReader", "faultPlace", "I", false)
def tyX5 : Nat → FieldType := fun k => match k with
  | 0 => .object "EveningPoach$Tape"
  | 1 => .int
  | 2 => .int
  | 3 => .int
  | 4 => .int
  | 5 => .int
  | 6 => .int
  | _ => .int
abbrev wsX50 : List Cond := u_ws RX5 TX5 8
theorem nmX5 : ∀ a, a < 8 → ∀ b, b < 8 → a ≠ b → (TX5 a).2.1 ≠ (TX5 b).2.1 := by decide +kernel
theorem tyX5_ok : ∀ k, k < 8 → parseFieldDescriptor (TX5 k).2.2.1 = some (tyX5 k) := by decide +kernel
abbrev cX5_init : ByteArray := prog_7_method_1_code
def yX5_init : MethodName := ⟨RX5, "<init>", "(LEveningPoach$Tape;)V"⟩
abbrev cX5_readLines : ByteArray := prog_7_method_2_code
def yX5_readLines : MethodName := ⟨RX5, "readLines", "(LEveningPoach$Estate;)I"⟩
abbrev cX5_readLine : ByteArray := prog_7_method_3_code
def yX5_readLine : MethodName := ⟨RX5, "readLine", "(LEveningPoach$Estate;)Z"⟩
abbrev cX5_readTaker : ByteArray := prog_7_method_4_code
def yX5_readTaker : MethodName := ⟨RX5, "readTaker", "(LEveningPoach$Estate;I)Z"⟩
abbrev cX5_readKeeper : ByteArray := prog_7_method_5_code
def yX5_readKeeper : MethodName := ⟨RX5, "readKeeper", "(LEveningPoach$Estate;)Z"⟩
abbrev cX5_readGate : ByteArray := prog_7_method_6_code
def yX5_readGate : MethodName := ⟨RX5, "readGate", "(LEveningPoach$Estate;)Z"⟩
abbrev cX5_readNumber : ByteArray := prog_7_method_7_code
def yX5_readNumber : MethodName := ⟨RX5, "readNumber", "(II)Z"⟩
abbrev cX5_readSemicolonBehind : ByteArray := prog_7_method_8_code
def yX5_readSemicolonBehind : MethodName := ⟨RX5, "readSemicolonBehind", "()Z"⟩
abbrev cX5_readToken : ByteArray := prog_7_method_9_code
def yX5_readToken : MethodName := ⟨RX5, "readToken", "()Z"⟩
abbrev cX5_placeBehindAll : ByteArray := prog_7_method_10_code
def yX5_placeBehindAll : MethodName := ⟨RX5, "placeBehindAll", "(III)I"⟩
abbrev cX5_takeFigures : ByteArray := prog_7_method_11_code
def yX5_takeFigures : MethodName := ⟨RX5, "takeFigures", "()Z"⟩
abbrev cX5_isName : ByteArray := prog_7_method_12_code
def yX5_isName : MethodName := ⟨RX5, "isName", "(Ljava/lang/String;)Z"⟩
abbrev cX5_nameOfKind : ByteArray := prog_7_method_13_code
def yX5_nameOfKind : MethodName := ⟨RX5, "nameOfKind", "(I)Ljava/lang/String;"⟩
abbrev cX5_refuse : ByteArray := prog_7_method_14_code
def yX5_refuse : MethodName := ⟨RX5, "refuse", "(I)Z"⟩
def RX6 : String := "EveningPoach$Trial"
def TX6 : u_T := fun k => match k with
  | 0 => ("EveningPoach$Trial", "estate", "LEveningPoach$Estate;", true)
  | 1 => ("EveningPoach$Trial", "gone", "I", false)
  | 2 => ("EveningPoach$Trial", "taken", "I", false)
  | 3 => ("EveningPoach$Trial", "caughtTimes", "I", false)
  | 4 => ("EveningPoach$Trial", "caughtBits", "I", false)
  | _ => ("EveningPoach$Trial", "firstCaught", "I", false)
def tyX6 : Nat → FieldType := fun k => match k with
  | 0 => .object "EveningPoach$Estate"
  | 1 => .int
  | 2 => .int
  | 3 => .int
  | 4 => .int
  | _ => .int
abbrev wsX60 : List Cond := u_ws RX6 TX6 6
theorem nmX6 : ∀ a, a < 6 → ∀ b, b < 6 → a ≠ b → (TX6 a).2.1 ≠ (TX6 b).2.1 := by decide +kernel
theorem tyX6_ok : ∀ k, k < 6 → parseFieldDescriptor (TX6 k).2.2.1 = some (tyX6 k) := by decide +kernel
abbrev cX6_init : ByteArray := prog_8_method_1_code
def yX6_init : MethodName := ⟨RX6, "<init>", "()V"⟩
abbrev cX6_begin : ByteArray := prog_8_method_2_code
def yX6_begin : MethodName := ⟨RX6, "begin", "(LEveningPoach$Estate;)V"⟩
abbrev cX6_pass : ByteArray := prog_8_method_3_code
def yX6_pass : MethodName := ⟨RX6, "pass", "(I)V"⟩
abbrev cX6_passOne : ByteArray := prog_8_method_4_code
def yX6_passOne : MethodName := ⟨RX6, "passOne", "(Z)V"⟩
abbrev cX6_wasCaught : ByteArray := prog_8_method_5_code
def yX6_wasCaught : MethodName := ⟨RX6, "wasCaught", "(I)Z"⟩
def RX7 : String := "EveningPoach"
def TX7 : u_T := fun k => match k with
  | 0 => ("EveningPoach", "now", "LEveningPoach$Estate;", true)
  | 1 => ("EveningPoach", "trial", "LEveningPoach$Trial;", true)
  | 2 => ("EveningPoach", "tape", "LEveningPoach$Tape;", true)
  | 3 => ("EveningPoach", "reader", "LEveningPoach$TapeReader;", true)
  | 4 => ("EveningPoach", "seen", "LEveningPoach$Sightings;", true)
  | 5 => ("EveningPoach", "outlook", "LEveningPoach$Outlook;", true)
  | 6 => ("EveningPoach", "images", "[LEveningPoach$Estate;", true)
  | 7 => ("EveningPoach", "imageKept", "[Z", true)
  | 8 => ("EveningPoach", "sheets", "[LEveningPoach$Sheet;", true)
  | 9 => ("EveningPoach", "textFault", "I", false)
  | _ => ("EveningPoach", "readFault", "I", false)
def tyX7 : Nat → FieldType := fun k => match k with
  | 0 => .object "EveningPoach$Estate"
  | 1 => .object "EveningPoach$Trial"
  | 2 => .object "EveningPoach$Tape"
  | 3 => .object "EveningPoach$TapeReader"
  | 4 => .object "EveningPoach$Sightings"
  | 5 => .object "EveningPoach$Outlook"
  | 6 => .array (.object "EveningPoach$Estate")
  | 7 => .array .boolean
  | 8 => .array (.object "EveningPoach$Sheet")
  | 9 => .int
  | _ => .int
abbrev wsX70 : List Cond := u_ws RX7 TX7 11
theorem nmX7 : ∀ a, a < 11 → ∀ b, b < 11 → a ≠ b → (TX7 a).2.1 ≠ (TX7 b).2.1 := by decide +kernel
theorem tyX7_ok : ∀ k, k < 11 → parseFieldDescriptor (TX7 k).2.2.1 = some (tyX7 k) := by decide +kernel
abbrev cX7_init : ByteArray := prog_1_method_1_code
def yX7_init : MethodName := ⟨RX7, "<init>", "()V"⟩
abbrev cX7_feed : ByteArray := prog_1_method_2_code
def yX7_feed : MethodName := ⟨RX7, "feed", "(I)I"⟩
abbrev cX7_end : ByteArray := prog_1_method_3_code
def yX7_end : MethodName := ⟨RX7, "end", "(I)I"⟩
abbrev cX7_text : ByteArray := prog_1_method_4_code
def yX7_text : MethodName := ⟨RX7, "text", "()I"⟩
abbrev cX7_fault : ByteArray := prog_1_method_5_code
def yX7_fault : MethodName := ⟨RX7, "fault", "()I"⟩
abbrev cX7_rule : ByteArray := prog_1_method_6_code
def yX7_rule : MethodName := ⟨RX7, "rule", "(I)I"⟩
abbrev cX7_gate : ByteArray := prog_1_method_7_code
def yX7_gate : MethodName := ⟨RX7, "gate", "(II)I"⟩
abbrev cX7_taker : ByteArray := prog_1_method_8_code
def yX7_taker : MethodName := ⟨RX7, "taker", "(II)I"⟩
abbrev cX7_keeper : ByteArray := prog_1_method_9_code
def yX7_keeper : MethodName := ⟨RX7, "keeper", "(II)I"⟩
abbrev cX7_alter : ByteArray := prog_1_method_10_code
def yX7_alter : MethodName := ⟨RX7, "alter", "(III)I"⟩
abbrev cX7_order : ByteArray := prog_1_method_11_code
def yX7_order : MethodName := ⟨RX7, "order", "(III)I"⟩
abbrev cX7_tend : ByteArray := prog_1_method_12_code
def yX7_tend : MethodName := ⟨RX7, "tend", "(III)I"⟩
abbrev cX7_free : ByteArray := prog_1_method_13_code
def yX7_free : MethodName := ⟨RX7, "free", "(I)I"⟩
abbrev cX7_hire : ByteArray := prog_1_method_14_code
def yX7_hire : MethodName := ⟨RX7, "hire", "(III)I"⟩
abbrev cX7_dismiss : ByteArray := prog_1_method_15_code
def yX7_dismiss : MethodName := ⟨RX7, "dismiss", "(I)I"⟩
abbrev cX7_nights : ByteArray := prog_1_method_16_code
def yX7_nights : MethodName := ⟨RX7, "nights", "(I)I"⟩
abbrev cX7_runs : ByteArray := prog_1_method_17_code
def yX7_runs : MethodName := ⟨RX7, "runs", "(II)I"⟩
abbrev cX7_ahead : ByteArray := prog_1_method_18_code
def yX7_ahead : MethodName := ⟨RX7, "ahead", "(III)I"⟩
abbrev cX7_glow : ByteArray := prog_1_method_19_code
def yX7_glow : MethodName := ⟨RX7, "glow", "(II)I"⟩
abbrev cX7_caught : ByteArray := prog_1_method_20_code
def yX7_caught : MethodName := ⟨RX7, "caught", "(I)I"⟩
abbrev cX7_best : ByteArray := prog_1_method_21_code
def yX7_best : MethodName := ⟨RX7, "best", "(III)I"⟩
abbrev cX7_ripen : ByteArray := prog_1_method_22_code
def yX7_ripen : MethodName := ⟨RX7, "ripen", "(III)I"⟩
abbrev cX7_swap : ByteArray := prog_1_method_23_code
def yX7_swap : MethodName := ⟨RX7, "swap", "(II)I"⟩
abbrev cX7_round : ByteArray := prog_1_method_24_code
def yX7_round : MethodName := ⟨RX7, "round", "(III)I"⟩
abbrev cX7_post : ByteArray := prog_1_method_25_code
def yX7_post : MethodName := ⟨RX7, "post", "(III)I"⟩
abbrev cX7_kind : ByteArray := prog_1_method_26_code
def yX7_kind : MethodName := ⟨RX7, "kind", "(III)I"⟩
abbrev cX7_sharp : ByteArray := prog_1_method_27_code
def yX7_sharp : MethodName := ⟨RX7, "sharp", "(III)I"⟩
abbrev cX7_luck : ByteArray := prog_1_method_28_code
def yX7_luck : MethodName := ⟨RX7, "luck", "(IIII)J"⟩
abbrev cX7_mean : ByteArray := prog_1_method_29_code
def yX7_mean : MethodName := ⟨RX7, "mean", "(III)J"⟩
abbrev cX7_see : ByteArray := prog_1_method_30_code
def yX7_see : MethodName := ⟨RX7, "see", "(III)I"⟩
abbrev cX7_forget : ByteArray := prog_1_method_31_code
def yX7_forget : MethodName := ⟨RX7, "forget", "(I)I"⟩
abbrev cX7_kinds : ByteArray := prog_1_method_32_code
def yX7_kinds : MethodName := ⟨RX7, "kinds", "(I)I"⟩
abbrev cX7_gates : ByteArray := prog_1_method_33_code
def yX7_gates : MethodName := ⟨RX7, "gates", "(I)I"⟩
abbrev cX7_ask : ByteArray := prog_1_method_34_code
def yX7_ask : MethodName := ⟨RX7, "ask", "(II)I"⟩
abbrev cX7_drift : ByteArray := prog_1_method_35_code
def yX7_drift : MethodName := ⟨RX7, "drift", "(III)I"⟩
abbrev cX7_keep : ByteArray := prog_1_method_36_code
def yX7_keep : MethodName := ⟨RX7, "keep", "(I)I"⟩
abbrev cX7_back : ByteArray := prog_1_method_37_code
def yX7_back : MethodName := ⟨RX7, "back", "(I)I"⟩
abbrev cX7_sheet : ByteArray := prog_1_method_38_code
def yX7_sheet : MethodName := ⟨RX7, "sheet", "(III)I"⟩
abbrev cX7_lay : ByteArray := prog_1_method_39_code
def yX7_lay : MethodName := ⟨RX7, "lay", "(III)I"⟩
abbrev cX7_read : ByteArray := prog_1_method_40_code
def yX7_read : MethodName := ⟨RX7, "read", "(IIII)I"⟩
abbrev cX7_torn : ByteArray := prog_1_method_41_code
def yX7_torn : MethodName := ⟨RX7, "torn", "()I"⟩
abbrev cX7_count : ByteArray := prog_1_method_42_code
def yX7_count : MethodName := ⟨RX7, "count", "(I)I"⟩
abbrev cX7_isOutside : ByteArray := prog_1_method_43_code
def yX7_isOutside : MethodName := ⟨RX7, "isOutside", "(III)Z"⟩
abbrev cX7_isNoGate : ByteArray := prog_1_method_44_code
def yX7_isNoGate : MethodName := ⟨RX7, "isNoGate", "(I)Z"⟩
abbrev cX7_isNoTaker : ByteArray := prog_1_method_45_code
def yX7_isNoTaker : MethodName := ⟨RX7, "isNoTaker", "(I)Z"⟩
abbrev cX7_isNoKeeper : ByteArray := prog_1_method_46_code
def yX7_isNoKeeper : MethodName := ⟨RX7, "isNoKeeper", "(I)Z"⟩
abbrev cX7_isNoSheet : ByteArray := prog_1_method_47_code
def yX7_isNoSheet : MethodName := ⟨RX7, "isNoSheet", "(I)Z"⟩
abbrev cX7_isNoQuestion : ByteArray := prog_1_method_48_code
def yX7_isNoQuestion : MethodName := ⟨RX7, "isNoQuestion", "(II)Z"⟩
abbrev cX7_isNoHaze : ByteArray := prog_1_method_49_code
def yX7_isNoHaze : MethodName := ⟨RX7, "isNoHaze", "(III)Z"⟩
abbrev cX7_replace : ByteArray := prog_1_method_50_code
def yX7_replace : MethodName := ⟨RX7, "replace", "([IIIII)I"⟩
abbrev cX7_fullestBag : ByteArray := prog_1_method_51_code
def yX7_fullestBag : MethodName := ⟨RX7, "fullestBag", "(I[IIII)I"⟩
abbrev cX7_fittingBits : ByteArray := prog_1_method_52_code
def yX7_fittingBits : MethodName := ⟨RX7, "fittingBits", "(I[II)I"⟩
abbrev cX7_sendTaker : ByteArray := prog_1_method_53_code
def yX7_sendTaker : MethodName := ⟨RX7, "sendTaker", "(II)Z"⟩
abbrev cX7_takenInHazes : ByteArray := prog_1_method_54_code
def yX7_takenInHazes : MethodName := ⟨RX7, "takenInHazes", "(II)I"⟩
abbrev cX7_weightOf : ByteArray := prog_1_method_55_code
def yX7_weightOf : MethodName := ⟨RX7, "weightOf", "(III)J"⟩
abbrev cX7_partOfFraction : ByteArray := prog_1_method_56_code
def yX7_partOfFraction : MethodName := ⟨RX7, "partOfFraction", "(JJI)J"⟩
abbrev cX7_commonDivisor : ByteArray := prog_1_method_57_code
def yX7_commonDivisor : MethodName := ⟨RX7, "commonDivisor", "(JJ)J"⟩
def RX8 : String := "EveningPoachModel"
def TX8 : u_T := fun k => match k with
  | 0 => ("EveningPoachModel", "state", "[I", true)
  | 1 => ("EveningPoachModel", "takerMany", "I", false)
  | 2 => ("EveningPoachModel", "readPage", "[I", true)
  | 3 => ("EveningPoachModel", "readTakers", "I", false)
  | 4 => ("EveningPoachModel", "toldGates", "I", false)
  | 5 => ("EveningPoachModel", "tape", "[I", true)
  | 6 => ("EveningPoachModel", "taped", "I", false)
  | 7 => ("EveningPoachModel", "fault", "I", false)
  | 8 => ("EveningPoachModel", "broken", "I", false)
  | 9 => ("EveningPoachModel", "brokenAt", "I", false)
  | 10 => ("EveningPoachModel", "spot", "I", false)
  | 11 => ("EveningPoachModel", "here", "I", false)
  | 12 => ("EveningPoachModel", "token", "I", false)
  | 13 => ("EveningPoachModel", "value", "I", false)
  | 14 => ("EveningPoachModel", "ends", "[I", true)
  | 15 => ("EveningPoachModel", "letters", "[I", true)
  | 16 => ("EveningPoachModel", "taken", "I", false)
  | 17 => ("EveningPoachModel", "caughtOnes", "I", false)
  | 18 => ("EveningPoachModel", "times", "I", false)
  | 19 => ("EveningPoachModel", "firstTime", "I", false)
  | 20 => ("EveningPoachModel", "seen", "[I", true)
  | 21 => ("EveningPoachModel", "seenMany", "I", false)
  | 22 => ("EveningPoachModel", "lightBy", "[I", true)
  | 23 => ("EveningPoachModel", "isKept", "[Z", true)
  | 24 => ("EveningPoachModel", "lanes", "[I", true)
  | 25 => ("EveningPoachModel", "lengths", "[I", true)
  | 26 => ("EveningPoachModel", "cells", "[I", true)
  | _ => ("EveningPoachModel", "torn", "I", false)
def tyX8 : Nat → FieldType := fun k => match k with
  | 0 => .array .int
  | 1 => .int
  | 2 => .array .int
  | 3 => .int
  | 4 => .int
  | 5 => .array .int
  | 6 => .int
  | 7 => .int
  | 8 => .int
  | 9 => .int
  | 10 => .int
  | 11 => .int
  | 12 => .int
  | 13 => .int
  | 14 => .array .int
  | 15 => .array .int
  | 16 => .int
  | 17 => .int
  | 18 => .int
  | 19 => .int
  | 20 => .array .int
  | 21 => .int
  | 22 => .array .int
  | 23 => .array .boolean
  | 24 => .array .int
  | 25 => .array .int
  | 26 => .array .int
  | _ => .int
abbrev wsX80 : List Cond := u_ws RX8 TX8 28
theorem nmX8 : ∀ a, a < 28 → ∀ b, b < 28 → a ≠ b → (TX8 a).2.1 ≠ (TX8 b).2.1 := by decide +kernel
theorem tyX8_ok : ∀ k, k < 28 → parseFieldDescriptor (TX8 k).2.2.1 = some (tyX8 k) := by decide +kernel
abbrev cX8_init : ByteArray := prog_10_method_1_code
def yX8_init : MethodName := ⟨RX8, "<init>", "()V"⟩
abbrev cX8_in : ByteArray := prog_10_method_3_code
def yX8_in : MethodName := ⟨RX8, "in", "(JJJ)Z"⟩
abbrev cX8_feed : ByteArray := prog_10_method_4_code
def yX8_feed : MethodName := ⟨RX8, "feed", "(I)I"⟩
abbrev cX8_end : ByteArray := prog_10_method_5_code
def yX8_end : MethodName := ⟨RX8, "end", "(I)I"⟩
abbrev cX8_byteAt : ByteArray := prog_10_method_6_code
def yX8_byteAt : MethodName := ⟨RX8, "byteAt", "(I)I"⟩
abbrev cX8_fails : ByteArray := prog_10_method_7_code
def yX8_fails : MethodName := ⟨RX8, "fails", "(I)V"⟩
abbrev cX8_nameHere : ByteArray := prog_10_method_8_code
def yX8_nameHere : MethodName := ⟨RX8, "nameHere", "()I"⟩
abbrev cX8_step : ByteArray := prog_10_method_9_code
def yX8_step : MethodName := ⟨RX8, "step", "()V"⟩
abbrev cX8_number : ByteArray := prog_10_method_10_code
def yX8_number : MethodName := ⟨RX8, "number", "(II)I"⟩
abbrev cX8_readMore : ByteArray := prog_10_method_11_code
def yX8_readMore : MethodName := ⟨RX8, "readMore", "(I)V"⟩
abbrev cX8_readLine : ByteArray := prog_10_method_12_code
def yX8_readLine : MethodName := ⟨RX8, "readLine", "()V"⟩
abbrev cX8_text : ByteArray := prog_10_method_13_code
def yX8_text : MethodName := ⟨RX8, "text", "()I"⟩
abbrev cX8_fault : ByteArray := prog_10_method_14_code
def yX8_fault : MethodName := ⟨RX8, "fault", "()I"⟩
abbrev cX8_isGate : ByteArray := prog_10_method_15_code
def yX8_isGate : MethodName := ⟨RX8, "isGate", "(I)Z"⟩
abbrev cX8_isTaker : ByteArray := prog_10_method_16_code
def yX8_isTaker : MethodName := ⟨RX8, "isTaker", "(I)Z"⟩
abbrev cX8_isKeeper : ByteArray := prog_10_method_17_code
def yX8_isKeeper : MethodName := ⟨RX8, "isKeeper", "(I)Z"⟩
abbrev cX8_takesOn : ByteArray := prog_10_method_18_code
def yX8_takesOn : MethodName := ⟨RX8, "takesOn", "(II)I"⟩
abbrev cX8_noiseOn : ByteArray := prog_10_method_19_code
def yX8_noiseOn : MethodName := ⟨RX8, "noiseOn", "(II)I"⟩
abbrev cX8_atOn : ByteArray := prog_10_method_20_code
def yX8_atOn : MethodName := ⟨RX8, "atOn", "(II)I"⟩
abbrev cX8_isHeardOn : ByteArray := prog_10_method_21_code
def yX8_isHeardOn : MethodName := ⟨RX8, "isHeardOn", "(II)Z"⟩
abbrev cX8_lightOn : ByteArray := prog_10_method_22_code
def yX8_lightOn : MethodName := ⟨RX8, "lightOn", "(I)I"⟩
abbrev cX8_startCounts : ByteArray := prog_10_method_23_code
def yX8_startCounts : MethodName := ⟨RX8, "startCounts", "()V"⟩
abbrev cX8_goesIn : ByteArray := prog_10_method_24_code
def yX8_goesIn : MethodName := ⟨RX8, "goesIn", "(IIZ)V"⟩
abbrev cX8_nightOn : ByteArray := prog_10_method_25_code
def yX8_nightOn : MethodName := ⟨RX8, "nightOn", "(IZ)V"⟩
abbrev cX8_rule : ByteArray := prog_10_method_26_code
def yX8_rule : MethodName := ⟨RX8, "rule", "(I)I"⟩
abbrev cX8_gate : ByteArray := prog_10_method_27_code
def yX8_gate : MethodName := ⟨RX8, "gate", "(II)I"⟩
abbrev cX8_taker : ByteArray := prog_10_method_28_code
def yX8_taker : MethodName := ⟨RX8, "taker", "(II)I"⟩
abbrev cX8_keeper : ByteArray := prog_10_method_29_code
def yX8_keeper : MethodName := ⟨RX8, "keeper", "(II)I"⟩
abbrev cX8_puts : ByteArray := prog_10_method_30_code
def yX8_puts : MethodName := ⟨RX8, "puts", "(ZIII)I"⟩
abbrev cX8_alters : ByteArray := prog_10_method_31_code
def yX8_alters : MethodName := ⟨RX8, "alters", "(III)I"⟩
abbrev cX8_alter : ByteArray := prog_10_method_32_code
def yX8_alter : MethodName := ⟨RX8, "alter", "(III)I"⟩
abbrev cX8_order : ByteArray := prog_10_method_33_code
def yX8_order : MethodName := ⟨RX8, "order", "(III)I"⟩
abbrev cX8_tend : ByteArray := prog_10_method_34_code
def yX8_tend : MethodName := ⟨RX8, "tend", "(III)I"⟩
abbrev cX8_free : ByteArray := prog_10_method_35_code
def yX8_free : MethodName := ⟨RX8, "free", "(I)I"⟩
abbrev cX8_hiresOn : ByteArray := prog_10_method_36_code
def yX8_hiresOn : MethodName := ⟨RX8, "hiresOn", "(IIII)V"⟩
abbrev cX8_hire : ByteArray := prog_10_method_37_code
def yX8_hire : MethodName := ⟨RX8, "hire", "(III)I"⟩
abbrev cX8_dismiss : ByteArray := prog_10_method_38_code
def yX8_dismiss : MethodName := ⟨RX8, "dismiss", "(I)I"⟩
abbrev cX8_nights : ByteArray := prog_10_method_39_code
def yX8_nights : MethodName := ⟨RX8, "nights", "(I)I"⟩
abbrev cX8_copies : ByteArray := prog_10_method_40_code
def yX8_copies : MethodName := ⟨RX8, "copies", "(II)V"⟩
abbrev cX8_nightsGo : ByteArray := prog_10_method_41_code
def yX8_nightsGo : MethodName := ⟨RX8, "nightsGo", "(II)I"⟩
abbrev cX8_runs : ByteArray := prog_10_method_42_code
def yX8_runs : MethodName := ⟨RX8, "runs", "(II)I"⟩
abbrev cX8_ahead : ByteArray := prog_10_method_43_code
def yX8_ahead : MethodName := ⟨RX8, "ahead", "(III)I"⟩
abbrev cX8_glow : ByteArray := prog_10_method_44_code
def yX8_glow : MethodName := ⟨RX8, "glow", "(II)I"⟩
abbrev cX8_caught : ByteArray := prog_10_method_45_code
def yX8_caught : MethodName := ⟨RX8, "caught", "(I)I"⟩
abbrev cX8_best : ByteArray := prog_10_method_46_code
def yX8_best : MethodName := ⟨RX8, "best", "(III)I"⟩
abbrev cX8_ripen : ByteArray := prog_10_method_47_code
def yX8_ripen : MethodName := ⟨RX8, "ripen", "(III)I"⟩
abbrev cX8_swap : ByteArray := prog_10_method_48_code
def yX8_swap : MethodName := ⟨RX8, "swap", "(II)I"⟩
abbrev cX8_round : ByteArray := prog_10_method_49_code
def yX8_round : MethodName := ⟨RX8, "round", "(III)I"⟩
abbrev cX8_post : ByteArray := prog_10_method_50_code
def yX8_post : MethodName := ⟨RX8, "post", "(III)I"⟩
abbrev cX8_kind : ByteArray := prog_10_method_51_code
def yX8_kind : MethodName := ⟨RX8, "kind", "(III)I"⟩
abbrev cX8_sharp : ByteArray := prog_10_method_52_code
def yX8_sharp : MethodName := ⟨RX8, "sharp", "(III)I"⟩
abbrev cX8_lowest : ByteArray := prog_10_method_53_code
def yX8_lowest : MethodName := ⟨RX8, "lowest", "(JJI)J"⟩
abbrev cX8_byHaze : ByteArray := prog_10_method_54_code
def yX8_byHaze : MethodName := ⟨RX8, "byHaze", "(IIII)J"⟩
abbrev cX8_luck : ByteArray := prog_10_method_55_code
def yX8_luck : MethodName := ⟨RX8, "luck", "(IIII)J"⟩
abbrev cX8_mean : ByteArray := prog_10_method_56_code
def yX8_mean : MethodName := ⟨RX8, "mean", "(III)J"⟩
abbrev cX8_see : ByteArray := prog_10_method_57_code
def yX8_see : MethodName := ⟨RX8, "see", "(III)I"⟩
abbrev cX8_forget : ByteArray := prog_10_method_58_code
def yX8_forget : MethodName := ⟨RX8, "forget", "(I)I"⟩
abbrev cX8_isAsSeen : ByteArray := prog_10_method_59_code
def yX8_isAsSeen : MethodName := ⟨RX8, "isAsSeen", "(I)Z"⟩
abbrev cX8_kinds : ByteArray := prog_10_method_60_code
def yX8_kinds : MethodName := ⟨RX8, "kinds", "(I)I"⟩
abbrev cX8_gatesOf : ByteArray := prog_10_method_61_code
def yX8_gatesOf : MethodName := ⟨RX8, "gatesOf", "(I)I"⟩
abbrev cX8_gates : ByteArray := prog_10_method_62_code
def yX8_gates : MethodName := ⟨RX8, "gates", "(I)I"⟩
abbrev cX8_worstAt : ByteArray := prog_10_method_63_code
def yX8_worstAt : MethodName := ⟨RX8, "worstAt", "(II)I"⟩
abbrev cX8_ask : ByteArray := prog_10_method_64_code
def yX8_ask : MethodName := ⟨RX8, "ask", "(II)I"⟩
abbrev cX8_drift : ByteArray := prog_10_method_65_code
def yX8_drift : MethodName := ⟨RX8, "drift", "(III)I"⟩
abbrev cX8_keep : ByteArray := prog_10_method_66_code
def yX8_keep : MethodName := ⟨RX8, "keep", "(I)I"⟩
abbrev cX8_back : ByteArray := prog_10_method_67_code
def yX8_back : MethodName := ⟨RX8, "back", "(I)I"⟩
abbrev cX8_sheet : ByteArray := prog_10_method_68_code
def yX8_sheet : MethodName := ⟨RX8, "sheet", "(III)I"⟩
abbrev cX8_lay : ByteArray := prog_10_method_69_code
def yX8_lay : MethodName := ⟨RX8, "lay", "(III)I"⟩
abbrev cX8_read : ByteArray := prog_10_method_70_code
def yX8_read : MethodName := ⟨RX8, "read", "(IIII)I"⟩
abbrev cX8_torn : ByteArray := prog_10_method_71_code
def yX8_torn : MethodName := ⟨RX8, "torn", "()I"⟩
abbrev cX8_count : ByteArray := prog_10_method_72_code
def yX8_count : MethodName := ⟨RX8, "count", "(I)I"⟩
def RJ6 : String := "java/lang/Integer"
def TJ6 : u_T := fun k => match k with
  | _ => ("", "", "", false)
def tyJ6 : Nat → FieldType := fun k => match k with
  | _ => .int
abbrev wsJ60 : List Cond := u_ws RJ6 TJ6 0
theorem nmJ6 : ∀ a, a < 0 → ∀ b, b < 0 → a ≠ b → (TJ6 a).2.1 ≠ (TJ6 b).2.1 := by decide +kernel
theorem tyJ6_ok : ∀ k, k < 0 → parseFieldDescriptor (TJ6 k).2.2.1 = some (tyJ6 k) := by decide +kernel
abbrev cJ6_bitCount_0f7a4 : ByteArray := prog_11_method_49_code
def yJ6_bitCount_0f7a4 : MethodName := ⟨RJ6, "bitCount", "(I)I"⟩
def RJ9 : String := "java/lang/Math"
def TJ9 : u_T := fun k => match k with
  | _ => ("", "", "", false)
def tyJ9 : Nat → FieldType := fun k => match k with
  | _ => .int
abbrev wsJ90 : List Cond := u_ws RJ9 TJ9 0
theorem nmJ9 : ∀ a, a < 0 → ∀ b, b < 0 → a ≠ b → (TJ9 a).2.1 ≠ (TJ9 b).2.1 := by decide +kernel
theorem tyJ9_ok : ∀ k, k < 0 → parseFieldDescriptor (TJ9 k).2.2.1 = some (tyJ9 k) := by decide +kernel
abbrev cJ9_max_7cf53 : ByteArray := prog_12_method_65_code
def yJ9_max_7cf53 : MethodName := ⟨RJ9, "max", "(II)I"⟩
abbrev cJ9_min_7cf53 : ByteArray := prog_12_method_69_code
def yJ9_min_7cf53 : MethodName := ⟨RJ9, "min", "(II)I"⟩
def RJ0 : String := "java/lang/String"
def TJ0 : u_T := fun k => match k with
  | _ => ("", "", "", false)
def tyJ0 : Nat → FieldType := fun k => match k with
  | _ => .int
abbrev wsJ00 : List Cond := u_ws RJ0 TJ0 0
theorem nmJ0 : ∀ a, a < 0 → ∀ b, b < 0 → a ≠ b → (TJ0 a).2.1 ≠ (TJ0 b).2.1 := by decide +kernel
theorem tyJ0_ok : ∀ k, k < 0 → parseFieldDescriptor (TJ0 k).2.2.1 = some (tyJ0 k) := by decide +kernel
abbrev cJ0_length_8abf5 : ByteArray := prog_13_method_54_code
def yJ0_length_8abf5 : MethodName := ⟨RJ0, "length", "()I"⟩
abbrev cJ0_charAt_5068e : ByteArray := prog_13_method_56_code
def yJ0_charAt_5068e : MethodName := ⟨RJ0, "charAt", "(I)C"⟩
abbrev cJ0_coder_7d493 : ByteArray := prog_13_method_152_code
def yJ0_coder_7d493 : MethodName := ⟨RJ0, "coder", "()B"⟩
abbrev cJ0_isLatin1_aae02 : ByteArray := prog_13_method_154_code
def yJ0_isLatin1_aae02 : MethodName := ⟨RJ0, "isLatin1", "()Z"⟩
abbrev cJ0_checkIndex_df160 : ByteArray := prog_13_method_155_code
def yJ0_checkIndex_df160 : MethodName := ⟨RJ0, "checkIndex", "(II)V"⟩
def RJ1 : String := "java/lang/StringLatin1"
def TJ1 : u_T := fun k => match k with
  | _ => ("", "", "", false)
def tyJ1 : Nat → FieldType := fun k => match k with
  | _ => .int
abbrev wsJ10 : List Cond := u_ws RJ1 TJ1 0
theorem nmJ1 : ∀ a, a < 0 → ∀ b, b < 0 → a ≠ b → (TJ1 a).2.1 ≠ (TJ1 b).2.1 := by decide +kernel
theorem tyJ1_ok : ∀ k, k < 0 → parseFieldDescriptor (TJ1 k).2.2.1 = some (tyJ1 k) := by decide +kernel
abbrev cJ1_charAt_3b067 : ByteArray := prog_14_method_2_code
def yJ1_charAt_3b067 : MethodName := ⟨RJ1, "charAt", "([BI)C"⟩
def RJ2 : String := "java/lang/StringUTF16"
def TJ2 : u_T := fun k => match k with
  | _ => ("", "", "", false)
def tyJ2 : Nat → FieldType := fun k => match k with
  | _ => .int
abbrev wsJ20 : List Cond := u_ws RJ2 TJ2 0
theorem nmJ2 : ∀ a, a < 0 → ∀ b, b < 0 → a ≠ b → (TJ2 a).2.1 ≠ (TJ2 b).2.1 := by decide +kernel
theorem tyJ2_ok : ∀ k, k < 0 → parseFieldDescriptor (TJ2 k).2.2.1 = some (tyJ2 k) := by decide +kernel
abbrev cJ2_getChar_3b067 : ByteArray := prog_15_method_5_code
def yJ2_getChar_3b067 : MethodName := ⟨RJ2, "getChar", "([BI)C"⟩
abbrev cJ2_length_9d52b : ByteArray := prog_15_method_6_code
def yJ2_length_9d52b : MethodName := ⟨RJ2, "length", "([B)I"⟩
abbrev cJ2_charAt_3b067 : ByteArray := prog_15_method_83_code
def yJ2_charAt_3b067 : MethodName := ⟨RJ2, "charAt", "([BI)C"⟩
abbrev cJ2_checkIndex_2214a : ByteArray := prog_15_method_91_code
def yJ2_checkIndex_2214a : MethodName := ⟨RJ2, "checkIndex", "(I[B)V"⟩
def RJ10 : String := "java/lang/System"
def TJ10 : u_T := fun k => match k with
  | _ => ("", "", "", false)
def tyJ10 : Nat → FieldType := fun k => match k with
  | _ => .int
abbrev wsJ100 : List Cond := u_ws RJ10 TJ10 0
theorem nmJ10 : ∀ a, a < 0 → ∀ b, b < 0 → a ≠ b → (TJ10 a).2.1 ≠ (TJ10 b).2.1 := by decide +kernel
theorem tyJ10_ok : ∀ k, k < 0 → parseFieldDescriptor (TJ10 k).2.2.1 = some (tyJ10 k) := by decide +kernel
def RJ3 : String := "jdk/internal/util/Preconditions"
def TJ3 : u_T := fun k => match k with
  | _ => ("", "", "", false)
def tyJ3 : Nat → FieldType := fun k => match k with
  | _ => .int
abbrev wsJ30 : List Cond := u_ws RJ3 TJ3 0
theorem nmJ3 : ∀ a, a < 0 → ∀ b, b < 0 → a ≠ b → (TJ3 a).2.1 ≠ (TJ3 b).2.1 := by decide +kernel
theorem tyJ3_ok : ∀ k, k < 0 → parseFieldDescriptor (TJ3 k).2.2.1 = some (tyJ3 k) := by decide +kernel
abbrev cJ3_checkIndex_8e157 : ByteArray := prog_17_method_11_code
def yJ3_checkIndex_8e157 : MethodName := ⟨RJ3, "checkIndex", "(IILjava/util/function/BiFunction;)I"⟩
def RL : String := "EveningPoachLaw"
abbrev cL_law : ByteArray := code
def yL_law : MethodName := ⟨RL, "law", "([I)Z"⟩
abbrev vwCl : List vw_C := [(RX0, TX0, 14), (RX1, TX1, 2), (RX2, TX2, 3), (RX3, TX3, 4), (RX4, TX4, 2), (RX5, TX5, 8), (RX6, TX6, 6), (RX7, TX7, 11), (RX8, TX8, 28)]
end
section
theorem dX0_init_0 : decode cX0_init 0 = .ok (.aload_n 0, 1) := by decide +kernel
theorem dX0_init_1 : decode cX0_init 1 = .ok (.invokespecial 1, 3) := by decide +kernel
theorem dX0_init_4 : decode cX0_init 4 = .ok (.aload_n 0, 1) := by decide +kernel
theorem dX0_init_5 : decode cX0_init 5 = .ok (.bipush 6, 2) := by decide +kernel
theorem dX0_init_7 : decode cX0_init 7 = .ok (.newarray .int, 2) := by decide +kernel
theorem dX0_init_9 : decode cX0_init 9 = .ok (.putfield 9, 3) := by decide +kernel
theorem dX0_init_12 : decode cX0_init 12 = .ok (.aload_n 0, 1) := by decide +kernel
theorem dX0_init_13 : decode cX0_init 13 = .ok (.bipush 6, 2) := by decide +kernel
theorem dX0_init_15 : decode cX0_init 15 = .ok (.newarray .int, 2) := by decide +kernel
theorem dX0_init_17 : decode cX0_init 17 = .ok (.putfield 13, 3) := by decide +kernel
theorem dX0_init_20 : decode cX0_init 20 = .ok (.aload_n 0, 1) := by decide +kernel
theorem dX0_init_21 : decode cX0_init 21 = .ok (.iconst 5, 1) := by decide +kernel
theorem dX0_init_22 : decode cX0_init 22 = .ok (.newarray .int, 2) := by decide +kernel
theorem dX0_init_24 : decode cX0_init 24 = .ok (.putfield 16, 3) := by decide +kernel
theorem dX0_init_27 : decode cX0_init 27 = .ok (.aload_n 0, 1) := by decide +kernel
theorem dX0_init_28 : decode cX0_init 28 = .ok (.iconst 5, 1) := by decide +kernel
theorem dX0_init_29 : decode cX0_init 29 = .ok (.newarray .int, 2) := by decide +kernel
theorem dX0_init_31 : decode cX0_init 31 = .ok (.putfield 19, 3) := by decide +kernel
theorem dX0_init_34 : decode cX0_init 34 = .ok (.aload_n 0, 1) := by decide +kernel
theorem dX0_init_35 : decode cX0_init 35 = .ok (.iconst 5, 1) := by decide +kernel
theorem dX0_init_36 : decode cX0_init 36 = .ok (.newarray .int, 2) := by decide +kernel
theorem dX0_init_38 : decode cX0_init 38 = .ok (.putfield 22, 3) := by decide +kernel
theorem dX0_init_41 : decode cX0_init 41 = .ok (.aload_n 0, 1) := by decide +kernel
theorem dX0_init_42 : decode cX0_init 42 = .ok (.iconst 5, 1) := by decide +kernel
theorem dX0_init_43 : decode cX0_init 43 = .ok (.newarray .int, 2) := by decide +kernel
theorem dX0_init_45 : decode cX0_init 45 = .ok (.putfield 25, 3) := by decide +kernel
theorem dX0_init_48 : decode cX0_init 48 = .ok (.aload_n 0, 1) := by decide +kernel
theorem dX0_init_49 : decode cX0_init 49 = .ok (.iconst 3, 1) := by decide +kernel
theorem dX0_init_50 : decode cX0_init 50 = .ok (.newarray .int, 2) := by decide +kernel
theorem dX0_init_52 : decode cX0_init 52 = .ok (.putfield 28, 3) := by decide +kernel
theorem dX0_init_55 : decode cX0_init 55 = .ok (.aload_n 0, 1) := by decide +kernel
theorem dX0_init_56 : decode cX0_init 56 = .ok (.iconst 3, 1) := by decide +kernel
theorem dX0_init_57 : decode cX0_init 57 = .ok (.newarray .int, 2) := by decide +kernel
theorem dX0_init_59 : decode cX0_init 59 = .ok (.putfield 31, 3) := by decide +kernel
theorem dX0_init_62 : decode cX0_init 62 = .ok (.aload_n 0, 1) := by decide +kernel
theorem dX0_init_63 : decode cX0_init 63 = .ok (.iconst 3, 1) := by decide +kernel
theorem dX0_init_64 : decode cX0_init 64 = .ok (.newarray .int, 2) := by decide +kernel
theorem dX0_init_66 : decode cX0_init 66 = .ok (.putfield 34, 3) := by decide +kernel
theorem dX0_init_69 : decode cX0_init 69 = .ok (.aload_n 0, 1) := by decide +kernel
theorem dX0_init_70 : decode cX0_init 70 = .ok (.invokevirtual 37, 3) := by decide +kernel
theorem dX0_init_73 : decode cX0_init 73 = .ok (.return_, 1) := by decide +kernel
theorem dX0_clear_0 : decode cX0_clear 0 = .ok (.iconst 0, 1) := by decide +kernel
theorem dX0_clear_1 : decode cX0_clear 1 = .ok (.istore_n 1, 1) := by decide +kernel
theorem dX0_clear_2 : decode cX0_clear 2 = .ok (.iload_n 1, 1) := by decide +kernel
theorem dX0_clear_3 : decode cX0_clear 3 = .ok (.bipush 6, 2) := by decide +kernel
theorem dX0_clear_5 : decode cX0_clear 5 = .ok (.if_icmp .ge 24, 3) := by decide +kernel
theorem dX0_clear_8 : decode cX0_clear 8 = .ok (.aload_n 0, 1) := by decide +kernel
theorem dX0_clear_9 : decode cX0_clear 9 = .ok (.getfield 9, 3) := by decide +kernel
theorem dX0_clear_12 : decode cX0_clear 12 = .ok (.iload_n 1, 1) := by decide +kernel
theorem dX0_clear_13 : decode cX0_clear 13 = .ok (.bipush 30, 2) := by decide +kernel
theorem dX0_clear_15 : decode cX0_clear 15 = .ok (.iastore, 1) := by decide +kernel
theorem dX0_clear_16 : decode cX0_clear 16 = .ok (.aload_n 0, 1) := by decide +kernel
theorem dX0_clear_17 : decode cX0_clear 17 = .ok (.getfield 13, 3) := by decide +kernel
theorem dX0_clear_20 : decode cX0_clear 20 = .ok (.iload_n 1, 1) := by decide +kernel
theorem dX0_clear_21 : decode cX0_clear 21 = .ok (.iconst 2, 1) := by decide +kernel
theorem dX0_clear_22 : decode cX0_clear 22 = .ok (.iastore, 1) := by decide +kernel
theorem dX0_clear_23 : decode cX0_clear 23 = .ok (.iinc 1 1, 3) := by decide +kernel
theorem dX0_clear_26 : decode cX0_clear 26 = .ok (.goto (-24), 3) := by decide +kernel
theorem dX0_clear_29 : decode cX0_clear 29 = .ok (.aload_n 0, 1) := by decide +kernel
theorem dX0_clear_30 : decode cX0_clear 30 = .ok (.iconst 0, 1) := by decide +kernel
theorem dX0_clear_31 : decode cX0_clear 31 = .ok (.putfield 40, 3) := by decide +kernel
theorem dX0_clear_34 : decode cX0_clear 34 = .ok (.aload_n 0, 1) := by decide +kernel
theorem dX0_clear_35 : decode cX0_clear 35 = .ok (.iconst 0, 1) := by decide +kernel
theorem dX0_clear_36 : decode cX0_clear 36 = .ok (.putfield 44, 3) := by decide +kernel
theorem dX0_clear_39 : decode cX0_clear 39 = .ok (.aload_n 0, 1) := by decide +kernel
theorem dX0_clear_40 : decode cX0_clear 40 = .ok (.iconst 0, 1) := by decide +kernel
theorem dX0_clear_41 : decode cX0_clear 41 = .ok (.putfield 47, 3) := by decide +kernel
theorem dX0_clear_44 : decode cX0_clear 44 = .ok (.aload_n 0, 1) := by decide +kernel
theorem dX0_clear_45 : decode cX0_clear 45 = .ok (.iconst 0, 1) := by decide +kernel
theorem dX0_clear_46 : decode cX0_clear 46 = .ok (.putfield 50, 3) := by decide +kernel
theorem dX0_clear_49 : decode cX0_clear 49 = .ok (.return_, 1) := by decide +kernel
theorem dX0_copyFrom_0 : decode cX0_copyFrom 0 = .ok (.aload_n 1, 1) := by decide +kernel
theorem dX0_copyFrom_1 : decode cX0_copyFrom 1 = .ok (.getfield 9, 3) := by decide +kernel
theorem dX0_copyFrom_4 : decode cX0_copyFrom 4 = .ok (.iconst 0, 1) := by decide +kernel
theorem dX0_copyFrom_5 : decode cX0_copyFrom 5 = .ok (.aload_n 0, 1) := by decide +kernel
theorem dX0_copyFrom_6 : decode cX0_copyFrom 6 = .ok (.getfield 9, 3) := by decide +kernel
theorem dX0_copyFrom_9 : decode cX0_copyFrom 9 = .ok (.iconst 0, 1) := by decide +kernel
theorem dX0_copyFrom_10 : decode cX0_copyFrom 10 = .ok (.bipush 6, 2) := by decide +kernel
theorem dX0_copyFrom_12 : decode cX0_copyFrom 12 = .ok (.invokestatic 53, 3) := by decide +kernel
theorem dX0_copyFrom_15 : decode cX0_copyFrom 15 = .ok (.aload_n 1, 1) := by decide +kernel
theorem dX0_copyFrom_16 : decode cX0_copyFrom 16 = .ok (.getfield 13, 3) := by decide +kernel
theorem dX0_copyFrom_19 : decode cX0_copyFrom 19 = .ok (.iconst 0, 1) := by decide +kernel
theorem dX0_copyFrom_20 : decode cX0_copyFrom 20 = .ok (.aload_n 0, 1) := by decide +kernel
theorem dX0_copyFrom_21 : decode cX0_copyFrom 21 = .ok (.getfield 13, 3) := by decide +kernel
theorem dX0_copyFrom_24 : decode cX0_copyFrom 24 = .ok (.iconst 0, 1) := by decide +kernel
theorem dX0_copyFrom_25 : decode cX0_copyFrom 25 = .ok (.bipush 6, 2) := by decide +kernel
theorem dX0_copyFrom_27 : decode cX0_copyFrom 27 = .ok (.invokestatic 53, 3) := by decide +kernel
theorem dX0_copyFrom_30 : decode cX0_copyFrom 30 = .ok (.aload_n 1, 1) := by decide +kernel
theorem dX0_copyFrom_31 : decode cX0_copyFrom 31 = .ok (.getfield 16, 3) := by decide +kernel
theorem dX0_copyFrom_34 : decode cX0_copyFrom 34 = .ok (.iconst 0, 1) := by decide +kernel
theorem dX0_copyFrom_35 : decode cX0_copyFrom 35 = .ok (.aload_n 0, 1) := by decide +kernel
theorem dX0_copyFrom_36 : decode cX0_copyFrom 36 = .ok (.getfield 16, 3) := by decide +kernel
theorem dX0_copyFrom_39 : decode cX0_copyFrom 39 = .ok (.iconst 0, 1) := by decide +kernel
theorem dX0_copyFrom_40 : decode cX0_copyFrom 40 = .ok (.iconst 5, 1) := by decide +kernel
theorem dX0_copyFrom_41 : decode cX0_copyFrom 41 = .ok (.invokestatic 53, 3) := by decide +kernel
theorem dX0_copyFrom_44 : decode cX0_copyFrom 44 = .ok (.aload_n 1, 1) := by decide +kernel
theorem dX0_copyFrom_45 : decode cX0_copyFrom 45 = .ok (.getfield 19, 3) := by decide +kernel
theorem dX0_copyFrom_48 : decode cX0_copyFrom 48 = .ok (.iconst 0, 1) := by decide +kernel
theorem dX0_copyFrom_49 : decode cX0_copyFrom 49 = .ok (.aload_n 0, 1) := by decide +kernel
theorem dX0_copyFrom_50 : decode cX0_copyFrom 50 = .ok (.getfield 19, 3) := by decide +kernel
theorem dX0_copyFrom_53 : decode cX0_copyFrom 53 = .ok (.iconst 0, 1) := by decide +kernel
theorem dX0_copyFrom_54 : decode cX0_copyFrom 54 = .ok (.iconst 5, 1) := by decide +kernel
theorem dX0_copyFrom_55 : decode cX0_copyFrom 55 = .ok (.invokestatic 53, 3) := by decide +kernel
theorem dX0_copyFrom_58 : decode cX0_copyFrom 58 = .ok (.aload_n 1, 1) := by decide +kernel
theorem dX0_copyFrom_59 : decode cX0_copyFrom 59 = .ok (.getfield 22, 3) := by decide +kernel
theorem dX0_copyFrom_62 : decode cX0_copyFrom 62 = .ok (.iconst 0, 1) := by decide +kernel
theorem dX0_copyFrom_63 : decode cX0_copyFrom 63 = .ok (.aload_n 0, 1) := by decide +kernel
theorem dX0_copyFrom_64 : decode cX0_copyFrom 64 = .ok (.getfield 22, 3) := by decide +kernel
theorem dX0_copyFrom_67 : decode cX0_copyFrom 67 = .ok (.iconst 0, 1) := by decide +kernel
theorem dX0_copyFrom_68 : decode cX0_copyFrom 68 = .ok (.iconst 5, 1) := by decide +kernel
theorem dX0_copyFrom_69 : decode cX0_copyFrom 69 = .ok (.invokestatic 53, 3) := by decide +kernel
theorem dX0_copyFrom_72 : decode cX0_copyFrom 72 = .ok (.aload_n 1, 1) := by decide +kernel
theorem dX0_copyFrom_73 : decode cX0_copyFrom 73 = .ok (.getfield 25, 3) := by decide +kernel
theorem dX0_copyFrom_76 : decode cX0_copyFrom 76 = .ok (.iconst 0, 1) := by decide +kernel
theorem dX0_copyFrom_77 : decode cX0_copyFrom 77 = .ok (.aload_n 0, 1) := by decide +kernel
theorem dX0_copyFrom_78 : decode cX0_copyFrom 78 = .ok (.getfield 25, 3) := by decide +kernel
theorem dX0_copyFrom_81 : decode cX0_copyFrom 81 = .ok (.iconst 0, 1) := by decide +kernel
theorem dX0_copyFrom_82 : decode cX0_copyFrom 82 = .ok (.iconst 5, 1) := by decide +kernel
theorem dX0_copyFrom_83 : decode cX0_copyFrom 83 = .ok (.invokestatic 53, 3) := by decide +kernel
theorem dX0_copyFrom_86 : decode cX0_copyFrom 86 = .ok (.aload_n 1, 1) := by decide +kernel
theorem dX0_copyFrom_87 : decode cX0_copyFrom 87 = .ok (.getfield 28, 3) := by decide +kernel
theorem dX0_copyFrom_90 : decode cX0_copyFrom 90 = .ok (.iconst 0, 1) := by decide +kernel
theorem dX0_copyFrom_91 : decode cX0_copyFrom 91 = .ok (.aload_n 0, 1) := by decide +kernel
theorem dX0_copyFrom_92 : decode cX0_copyFrom 92 = .ok (.getfield 28, 3) := by decide +kernel
theorem dX0_copyFrom_95 : decode cX0_copyFrom 95 = .ok (.iconst 0, 1) := by decide +kernel
theorem dX0_copyFrom_96 : decode cX0_copyFrom 96 = .ok (.iconst 3, 1) := by decide +kernel
theorem dX0_copyFrom_97 : decode cX0_copyFrom 97 = .ok (.invokestatic 53, 3) := by decide +kernel
theorem dX0_copyFrom_100 : decode cX0_copyFrom 100 = .ok (.aload_n 1, 1) := by decide +kernel
theorem dX0_copyFrom_101 : decode cX0_copyFrom 101 = .ok (.getfield 31, 3) := by decide +kernel
theorem dX0_copyFrom_104 : decode cX0_copyFrom 104 = .ok (.iconst 0, 1) := by decide +kernel
theorem dX0_copyFrom_105 : decode cX0_copyFrom 105 = .ok (.aload_n 0, 1) := by decide +kernel
theorem dX0_copyFrom_106 : decode cX0_copyFrom 106 = .ok (.getfield 31, 3) := by decide +kernel
theorem dX0_copyFrom_109 : decode cX0_copyFrom 109 = .ok (.iconst 0, 1) := by decide +kernel
theorem dX0_copyFrom_110 : decode cX0_copyFrom 110 = .ok (.iconst 3, 1) := by decide +kernel
theorem dX0_copyFrom_111 : decode cX0_copyFrom 111 = .ok (.invokestatic 53, 3) := by decide +kernel
theorem dX0_copyFrom_114 : decode cX0_copyFrom 114 = .ok (.aload_n 1, 1) := by decide +kernel
theorem dX0_copyFrom_115 : decode cX0_copyFrom 115 = .ok (.getfield 34, 3) := by decide +kernel
theorem dX0_copyFrom_118 : decode cX0_copyFrom 118 = .ok (.iconst 0, 1) := by decide +kernel
theorem dX0_copyFrom_119 : decode cX0_copyFrom 119 = .ok (.aload_n 0, 1) := by decide +kernel
theorem dX0_copyFrom_120 : decode cX0_copyFrom 120 = .ok (.getfield 34, 3) := by decide +kernel
theorem dX0_copyFrom_123 : decode cX0_copyFrom 123 = .ok (.iconst 0, 1) := by decide +kernel
theorem dX0_copyFrom_124 : decode cX0_copyFrom 124 = .ok (.iconst 3, 1) := by decide +kernel
theorem dX0_copyFrom_125 : decode cX0_copyFrom 125 = .ok (.invokestatic 53, 3) := by decide +kernel
theorem dX0_copyFrom_128 : decode cX0_copyFrom 128 = .ok (.aload_n 0, 1) := by decide +kernel
theorem dX0_copyFrom_129 : decode cX0_copyFrom 129 = .ok (.aload_n 1, 1) := by decide +kernel
theorem dX0_copyFrom_130 : decode cX0_copyFrom 130 = .ok (.getfield 40, 3) := by decide +kernel
theorem dX0_copyFrom_133 : decode cX0_copyFrom 133 = .ok (.putfield 40, 3) := by decide +kernel
theorem dX0_copyFrom_136 : decode cX0_copyFrom 136 = .ok (.aload_n 0, 1) := by decide +kernel
theorem dX0_copyFrom_137 : decode cX0_copyFrom 137 = .ok (.aload_n 1, 1) := by decide +kernel
theorem dX0_copyFrom_138 : decode cX0_copyFrom 138 = .ok (.getfield 44, 3) := by decide +kernel
theorem dX0_copyFrom_141 : decode cX0_copyFrom 141 = .ok (.putfield 44, 3) := by decide +kernel
theorem dX0_copyFrom_144 : decode cX0_copyFrom 144 = .ok (.aload_n 0, 1) := by decide +kernel
theorem dX0_copyFrom_145 : decode cX0_copyFrom 145 = .ok (.aload_n 1, 1) := by decide +kernel
theorem dX0_copyFrom_146 : decode cX0_copyFrom 146 = .ok (.getfield 47, 3) := by decide +kernel
theorem dX0_copyFrom_149 : decode cX0_copyFrom 149 = .ok (.putfield 47, 3) := by decide +kernel
theorem dX0_copyFrom_152 : decode cX0_copyFrom 152 = .ok (.aload_n 0, 1) := by decide +kernel
theorem dX0_copyFrom_153 : decode cX0_copyFrom 153 = .ok (.aload_n 1, 1) := by decide +kernel
theorem dX0_copyFrom_154 : decode cX0_copyFrom 154 = .ok (.getfield 50, 3) := by decide +kernel
theorem dX0_copyFrom_157 : decode cX0_copyFrom 157 = .ok (.putfield 50, 3) := by decide +kernel
theorem dX0_copyFrom_160 : decode cX0_copyFrom 160 = .ok (.return_, 1) := by decide +kernel
theorem dX0_addTaker_0 : decode cX0_addTaker 0 = .ok (.aload_n 0, 1) := by decide +kernel
theorem dX0_addTaker_1 : decode cX0_addTaker 1 = .ok (.getfield 40, 3) := by decide +kernel
theorem dX0_addTaker_4 : decode cX0_addTaker 4 = .ok (.iconst 5, 1) := by decide +kernel
theorem dX0_addTaker_5 : decode cX0_addTaker 5 = .ok (.if_icmp .lt 5, 3) := by decide +kernel
theorem dX0_addTaker_8 : decode cX0_addTaker 8 = .ok (.iconst 0, 1) := by decide +kernel
theorem dX0_addTaker_9 : decode cX0_addTaker 9 = .ok (.ireturn, 1) := by decide +kernel
theorem dX0_addTaker_10 : decode cX0_addTaker 10 = .ok (.aload_n 0, 1) := by decide +kernel
theorem dX0_addTaker_11 : decode cX0_addTaker 11 = .ok (.getfield 16, 3) := by decide +kernel
theorem dX0_addTaker_14 : decode cX0_addTaker 14 = .ok (.aload_n 0, 1) := by decide +kernel
theorem dX0_addTaker_15 : decode cX0_addTaker 15 = .ok (.getfield 40, 3) := by decide +kernel
theorem dX0_addTaker_18 : decode cX0_addTaker 18 = .ok (.iload_n 1, 1) := by decide +kernel
theorem dX0_addTaker_19 : decode cX0_addTaker 19 = .ok (.iastore, 1) := by decide +kernel
theorem dX0_addTaker_20 : decode cX0_addTaker 20 = .ok (.aload_n 0, 1) := by decide +kernel
theorem dX0_addTaker_21 : decode cX0_addTaker 21 = .ok (.getfield 19, 3) := by decide +kernel
theorem dX0_addTaker_24 : decode cX0_addTaker 24 = .ok (.aload_n 0, 1) := by decide +kernel
theorem dX0_addTaker_25 : decode cX0_addTaker 25 = .ok (.getfield 40, 3) := by decide +kernel
theorem dX0_addTaker_28 : decode cX0_addTaker 28 = .ok (.iload_n 2, 1) := by decide +kernel
theorem dX0_addTaker_29 : decode cX0_addTaker 29 = .ok (.iastore, 1) := by decide +kernel
theorem dX0_addTaker_30 : decode cX0_addTaker 30 = .ok (.aload_n 0, 1) := by decide +kernel
theorem dX0_addTaker_31 : decode cX0_addTaker 31 = .ok (.getfield 22, 3) := by decide +kernel
theorem dX0_addTaker_34 : decode cX0_addTaker 34 = .ok (.aload_n 0, 1) := by decide +kernel
theorem dX0_addTaker_35 : decode cX0_addTaker 35 = .ok (.getfield 40, 3) := by decide +kernel
theorem dX0_addTaker_38 : decode cX0_addTaker 38 = .ok (.iconst 0, 1) := by decide +kernel
theorem dX0_addTaker_39 : decode cX0_addTaker 39 = .ok (.iastore, 1) := by decide +kernel
theorem dX0_addTaker_40 : decode cX0_addTaker 40 = .ok (.aload_n 0, 1) := by decide +kernel
theorem dX0_addTaker_41 : decode cX0_addTaker 41 = .ok (.getfield 25, 3) := by decide +kernel
theorem dX0_addTaker_44 : decode cX0_addTaker 44 = .ok (.aload_n 0, 1) := by decide +kernel
theorem dX0_addTaker_45 : decode cX0_addTaker 45 = .ok (.getfield 40, 3) := by decide +kernel
theorem dX0_addTaker_48 : decode cX0_addTaker 48 = .ok (.iconst 0, 1) := by decide +kernel
theorem dX0_addTaker_49 : decode cX0_addTaker 49 = .ok (.iastore, 1) := by decide +kernel
theorem dX0_addTaker_50 : decode cX0_addTaker 50 = .ok (.aload_n 0, 1) := by decide +kernel
theorem dX0_addTaker_51 : decode cX0_addTaker 51 = .ok (.dup, 1) := by decide +kernel
theorem dX0_addTaker_52 : decode cX0_addTaker 52 = .ok (.getfield 40, 3) := by decide +kernel
theorem dX0_addTaker_55 : decode cX0_addTaker 55 = .ok (.iconst 1, 1) := by decide +kernel
theorem dX0_addTaker_56 : decode cX0_addTaker 56 = .ok (.iadd, 1) := by decide +kernel
theorem dX0_addTaker_57 : decode cX0_addTaker 57 = .ok (.putfield 40, 3) := by decide +kernel
theorem dX0_addTaker_60 : decode cX0_addTaker 60 = .ok (.iconst 1, 1) := by decide +kernel
theorem dX0_addTaker_61 : decode cX0_addTaker 61 = .ok (.ireturn, 1) := by decide +kernel
theorem dX0_addKeeper_0 : decode cX0_addKeeper 0 = .ok (.aload_n 0, 1) := by decide +kernel
theorem dX0_addKeeper_1 : decode cX0_addKeeper 1 = .ok (.getfield 44, 3) := by decide +kernel
theorem dX0_addKeeper_4 : decode cX0_addKeeper 4 = .ok (.iconst 3, 1) := by decide +kernel
theorem dX0_addKeeper_5 : decode cX0_addKeeper 5 = .ok (.if_icmp .lt 5, 3) := by decide +kernel
theorem dX0_addKeeper_8 : decode cX0_addKeeper 8 = .ok (.iconst 0, 1) := by decide +kernel
theorem dX0_addKeeper_9 : decode cX0_addKeeper 9 = .ok (.ireturn, 1) := by decide +kernel
theorem dX0_addKeeper_10 : decode cX0_addKeeper 10 = .ok (.aload_n 0, 1) := by decide +kernel
theorem dX0_addKeeper_11 : decode cX0_addKeeper 11 = .ok (.getfield 28, 3) := by decide +kernel
theorem dX0_addKeeper_14 : decode cX0_addKeeper 14 = .ok (.aload_n 0, 1) := by decide +kernel
theorem dX0_addKeeper_15 : decode cX0_addKeeper 15 = .ok (.getfield 44, 3) := by decide +kernel
theorem dX0_addKeeper_18 : decode cX0_addKeeper 18 = .ok (.iload_n 1, 1) := by decide +kernel
theorem dX0_addKeeper_19 : decode cX0_addKeeper 19 = .ok (.iastore, 1) := by decide +kernel
theorem dX0_addKeeper_20 : decode cX0_addKeeper 20 = .ok (.aload_n 0, 1) := by decide +kernel
theorem dX0_addKeeper_21 : decode cX0_addKeeper 21 = .ok (.getfield 31, 3) := by decide +kernel
theorem dX0_addKeeper_24 : decode cX0_addKeeper 24 = .ok (.aload_n 0, 1) := by decide +kernel
theorem dX0_addKeeper_25 : decode cX0_addKeeper 25 = .ok (.getfield 44, 3) := by decide +kernel
theorem dX0_addKeeper_28 : decode cX0_addKeeper 28 = .ok (.iload_n 2, 1) := by decide +kernel
theorem dX0_addKeeper_29 : decode cX0_addKeeper 29 = .ok (.iastore, 1) := by decide +kernel
theorem dX0_addKeeper_30 : decode cX0_addKeeper 30 = .ok (.aload_n 0, 1) := by decide +kernel
theorem dX0_addKeeper_31 : decode cX0_addKeeper 31 = .ok (.getfield 34, 3) := by decide +kernel
theorem dX0_addKeeper_34 : decode cX0_addKeeper 34 = .ok (.aload_n 0, 1) := by decide +kernel
theorem dX0_addKeeper_35 : decode cX0_addKeeper 35 = .ok (.getfield 44, 3) := by decide +kernel
theorem dX0_addKeeper_38 : decode cX0_addKeeper 38 = .ok (.iload_n 3, 1) := by decide +kernel
theorem dX0_addKeeper_39 : decode cX0_addKeeper 39 = .ok (.iastore, 1) := by decide +kernel
theorem dX0_addKeeper_40 : decode cX0_addKeeper 40 = .ok (.aload_n 0, 1) := by decide +kernel
theorem dX0_addKeeper_41 : decode cX0_addKeeper 41 = .ok (.dup, 1) := by decide +kernel
theorem dX0_addKeeper_42 : decode cX0_addKeeper 42 = .ok (.getfield 44, 3) := by decide +kernel
theorem dX0_addKeeper_45 : decode cX0_addKeeper 45 = .ok (.iconst 1, 1) := by decide +kernel
theorem dX0_addKeeper_46 : decode cX0_addKeeper 46 = .ok (.iadd, 1) := by decide +kernel
theorem dX0_addKeeper_47 : decode cX0_addKeeper 47 = .ok (.putfield 44, 3) := by decide +kernel
theorem dX0_addKeeper_50 : decode cX0_addKeeper 50 = .ok (.iconst 1, 1) := by decide +kernel
theorem dX0_addKeeper_51 : decode cX0_addKeeper 51 = .ok (.ireturn, 1) := by decide +kernel
theorem dX0_takes_0 : decode cX0_takes 0 = .ok (.getstatic 59, 3) := by decide +kernel
theorem dX0_takes_3 : decode cX0_takes 3 = .ok (.aload_n 0, 1) := by decide +kernel
theorem dX0_takes_4 : decode cX0_takes 4 = .ok (.getfield 16, 3) := by decide +kernel
theorem dX0_takes_7 : decode cX0_takes 7 = .ok (.iload_n 1, 1) := by decide +kernel
theorem dX0_takes_8 : decode cX0_takes 8 = .ok (.iaload, 1) := by decide +kernel
theorem dX0_takes_9 : decode cX0_takes 9 = .ok (.iaload, 1) := by decide +kernel
theorem dX0_takes_10 : decode cX0_takes 10 = .ok (.ireturn, 1) := by decide +kernel
theorem dX0_noise_0 : decode cX0_noise 0 = .ok (.getstatic 62, 3) := by decide +kernel
theorem dX0_noise_3 : decode cX0_noise 3 = .ok (.aload_n 0, 1) := by decide +kernel
theorem dX0_noise_4 : decode cX0_noise 4 = .ok (.getfield 16, 3) := by decide +kernel
theorem dX0_noise_7 : decode cX0_noise 7 = .ok (.iload_n 1, 1) := by decide +kernel
theorem dX0_noise_8 : decode cX0_noise 8 = .ok (.iaload, 1) := by decide +kernel
theorem dX0_noise_9 : decode cX0_noise 9 = .ok (.iaload, 1) := by decide +kernel
theorem dX0_noise_10 : decode cX0_noise 10 = .ok (.ireturn, 1) := by decide +kernel
theorem dX0_placeOf_0 : decode cX0_placeOf 0 = .ok (.aload_n 0, 1) := by decide +kernel
theorem dX0_placeOf_1 : decode cX0_placeOf 1 = .ok (.getfield 28, 3) := by decide +kernel
theorem dX0_placeOf_4 : decode cX0_placeOf 4 = .ok (.iload_n 1, 1) := by decide +kernel
theorem dX0_placeOf_5 : decode cX0_placeOf 5 = .ok (.iaload, 1) := by decide +kernel
theorem dX0_placeOf_6 : decode cX0_placeOf 6 = .ok (.aload_n 0, 1) := by decide +kernel
theorem dX0_placeOf_7 : decode cX0_placeOf 7 = .ok (.getfield 47, 3) := by decide +kernel
theorem dX0_placeOf_10 : decode cX0_placeOf 10 = .ok (.aload_n 0, 1) := by decide +kernel
theorem dX0_placeOf_11 : decode cX0_placeOf 11 = .ok (.getfield 31, 3) := by decide +kernel
theorem dX0_placeOf_14 : decode cX0_placeOf 14 = .ok (.iload_n 1, 1) := by decide +kernel
theorem dX0_placeOf_15 : decode cX0_placeOf 15 = .ok (.iaload, 1) := by decide +kernel
theorem dX0_placeOf_16 : decode cX0_placeOf 16 = .ok (.imul, 1) := by decide +kernel
theorem dX0_placeOf_17 : decode cX0_placeOf 17 = .ok (.iadd, 1) := by decide +kernel
theorem dX0_placeOf_18 : decode cX0_placeOf 18 = .ok (.bipush 6, 2) := by decide +kernel
theorem dX0_placeOf_20 : decode cX0_placeOf 20 = .ok (.irem, 1) := by decide +kernel
theorem dX0_placeOf_21 : decode cX0_placeOf 21 = .ok (.ireturn, 1) := by decide +kernel
theorem dX0_wouldBeCaught_0 : decode cX0_wouldBeCaught 0 = .ok (.aload_n 0, 1) := by decide +kernel
theorem dX0_wouldBeCaught_1 : decode cX0_wouldBeCaught 1 = .ok (.getfield 25, 3) := by decide +kernel
theorem dX0_wouldBeCaught_4 : decode cX0_wouldBeCaught 4 = .ok (.iload_n 1, 1) := by decide +kernel
theorem dX0_wouldBeCaught_5 : decode cX0_wouldBeCaught 5 = .ok (.iaload, 1) := by decide +kernel
theorem dX0_wouldBeCaught_6 : decode cX0_wouldBeCaught 6 = .ok (.ifCond .le 5, 3) := by decide +kernel
theorem dX0_wouldBeCaught_9 : decode cX0_wouldBeCaught 9 = .ok (.iconst 0, 1) := by decide +kernel
theorem dX0_wouldBeCaught_10 : decode cX0_wouldBeCaught 10 = .ok (.ireturn, 1) := by decide +kernel
theorem dX0_wouldBeCaught_11 : decode cX0_wouldBeCaught 11 = .ok (.iconst 0, 1) := by decide +kernel
theorem dX0_wouldBeCaught_12 : decode cX0_wouldBeCaught 12 = .ok (.istore_n 2, 1) := by decide +kernel
theorem dX0_wouldBeCaught_13 : decode cX0_wouldBeCaught 13 = .ok (.iload_n 2, 1) := by decide +kernel
theorem dX0_wouldBeCaught_14 : decode cX0_wouldBeCaught 14 = .ok (.aload_n 0, 1) := by decide +kernel
theorem dX0_wouldBeCaught_15 : decode cX0_wouldBeCaught 15 = .ok (.getfield 44, 3) := by decide +kernel
theorem dX0_wouldBeCaught_18 : decode cX0_wouldBeCaught 18 = .ok (.if_icmp .ge 39, 3) := by decide +kernel
theorem dX0_wouldBeCaught_21 : decode cX0_wouldBeCaught 21 = .ok (.aload_n 0, 1) := by decide +kernel
theorem dX0_wouldBeCaught_22 : decode cX0_wouldBeCaught 22 = .ok (.iload_n 2, 1) := by decide +kernel
theorem dX0_wouldBeCaught_23 : decode cX0_wouldBeCaught 23 = .ok (.invokevirtual 65, 3) := by decide +kernel
theorem dX0_wouldBeCaught_26 : decode cX0_wouldBeCaught 26 = .ok (.aload_n 0, 1) := by decide +kernel
theorem dX0_wouldBeCaught_27 : decode cX0_wouldBeCaught 27 = .ok (.getfield 19, 3) := by decide +kernel
theorem dX0_wouldBeCaught_30 : decode cX0_wouldBeCaught 30 = .ok (.iload_n 1, 1) := by decide +kernel
theorem dX0_wouldBeCaught_31 : decode cX0_wouldBeCaught 31 = .ok (.iaload, 1) := by decide +kernel
theorem dX0_wouldBeCaught_32 : decode cX0_wouldBeCaught 32 = .ok (.if_icmp .ne 19, 3) := by decide +kernel
theorem dX0_wouldBeCaught_35 : decode cX0_wouldBeCaught 35 = .ok (.aload_n 0, 1) := by decide +kernel
theorem dX0_wouldBeCaught_36 : decode cX0_wouldBeCaught 36 = .ok (.iload_n 1, 1) := by decide +kernel
theorem dX0_wouldBeCaught_37 : decode cX0_wouldBeCaught 37 = .ok (.invokevirtual 69, 3) := by decide +kernel
theorem dX0_wouldBeCaught_40 : decode cX0_wouldBeCaught 40 = .ok (.aload_n 0, 1) := by decide +kernel
theorem dX0_wouldBeCaught_41 : decode cX0_wouldBeCaught 41 = .ok (.getfield 34, 3) := by decide +kernel
theorem dX0_wouldBeCaught_44 : decode cX0_wouldBeCaught 44 = .ok (.iload_n 2, 1) := by decide +kernel
theorem dX0_wouldBeCaught_45 : decode cX0_wouldBeCaught 45 = .ok (.iaload, 1) := by decide +kernel
theorem dX0_wouldBeCaught_46 : decode cX0_wouldBeCaught 46 = .ok (.if_icmp .lt 5, 3) := by decide +kernel
theorem dX0_wouldBeCaught_49 : decode cX0_wouldBeCaught 49 = .ok (.iconst 1, 1) := by decide +kernel
theorem dX0_wouldBeCaught_50 : decode cX0_wouldBeCaught 50 = .ok (.ireturn, 1) := by decide +kernel
theorem dX0_wouldBeCaught_51 : decode cX0_wouldBeCaught 51 = .ok (.iinc 2 1, 3) := by decide +kernel
theorem dX0_wouldBeCaught_54 : decode cX0_wouldBeCaught 54 = .ok (.goto (-41), 3) := by decide +kernel
theorem dX0_wouldBeCaught_57 : decode cX0_wouldBeCaught 57 = .ok (.iconst 0, 1) := by decide +kernel
theorem dX0_wouldBeCaught_58 : decode cX0_wouldBeCaught 58 = .ok (.ireturn, 1) := by decide +kernel
theorem dX0_passNight_0 : decode cX0_passNight 0 = .ok (.iconst 0, 1) := by decide +kernel
theorem dX0_passNight_1 : decode cX0_passNight 1 = .ok (.istore_n 2, 1) := by decide +kernel
theorem dX0_passNight_2 : decode cX0_passNight 2 = .ok (.aload_n 0, 1) := by decide +kernel
theorem dX0_passNight_3 : decode cX0_passNight 3 = .ok (.iconst 0, 1) := by decide +kernel
theorem dX0_passNight_4 : decode cX0_passNight 4 = .ok (.putfield 72, 3) := by decide +kernel
theorem dX0_passNight_7 : decode cX0_passNight 7 = .ok (.iconst 0, 1) := by decide +kernel
theorem dX0_passNight_8 : decode cX0_passNight 8 = .ok (.istore_n 3, 1) := by decide +kernel
theorem dX0_passNight_9 : decode cX0_passNight 9 = .ok (.iload_n 3, 1) := by decide +kernel
theorem dX0_passNight_10 : decode cX0_passNight 10 = .ok (.aload_n 0, 1) := by decide +kernel
theorem dX0_passNight_11 : decode cX0_passNight 11 = .ok (.getfield 40, 3) := by decide +kernel
theorem dX0_passNight_14 : decode cX0_passNight 14 = .ok (.if_icmp .ge 59, 3) := by decide +kernel
theorem dX0_passNight_17 : decode cX0_passNight 17 = .ok (.aload_n 0, 1) := by decide +kernel
theorem dX0_passNight_18 : decode cX0_passNight 18 = .ok (.getfield 25, 3) := by decide +kernel
theorem dX0_passNight_21 : decode cX0_passNight 21 = .ok (.iload_n 3, 1) := by decide +kernel
theorem dX0_passNight_22 : decode cX0_passNight 22 = .ok (.iaload, 1) := by decide +kernel
theorem dX0_passNight_23 : decode cX0_passNight 23 = .ok (.ifCond .le 16, 3) := by decide +kernel
theorem dX0_passNight_26 : decode cX0_passNight 26 = .ok (.aload_n 0, 1) := by decide +kernel
theorem dX0_passNight_27 : decode cX0_passNight 27 = .ok (.getfield 25, 3) := by decide +kernel
theorem dX0_passNight_30 : decode cX0_passNight 30 = .ok (.iload_n 3, 1) := by decide +kernel
theorem dX0_passNight_31 : decode cX0_passNight 31 = .ok (.dup2, 1) := by decide +kernel
theorem dX0_passNight_32 : decode cX0_passNight 32 = .ok (.iaload, 1) := by decide +kernel
theorem dX0_passNight_33 : decode cX0_passNight 33 = .ok (.iconst 1, 1) := by decide +kernel
theorem dX0_passNight_34 : decode cX0_passNight 34 = .ok (.isub, 1) := by decide +kernel
theorem dX0_passNight_35 : decode cX0_passNight 35 = .ok (.iastore, 1) := by decide +kernel
theorem dX0_passNight_36 : decode cX0_passNight 36 = .ok (.goto 31, 3) := by decide +kernel
theorem dX0_passNight_39 : decode cX0_passNight 39 = .ok (.iload_n 1, 1) := by decide +kernel
theorem dX0_passNight_40 : decode cX0_passNight 40 = .ok (.ifCond .ne 19, 3) := by decide +kernel
theorem dX0_passNight_43 : decode cX0_passNight 43 = .ok (.aload_n 0, 1) := by decide +kernel
theorem dX0_passNight_44 : decode cX0_passNight 44 = .ok (.iload_n 3, 1) := by decide +kernel
theorem dX0_passNight_45 : decode cX0_passNight 45 = .ok (.invokevirtual 75, 3) := by decide +kernel
theorem dX0_passNight_48 : decode cX0_passNight 48 = .ok (.ifCond .eq 11, 3) := by decide +kernel
theorem dX0_passNight_51 : decode cX0_passNight 51 = .ok (.aload_n 0, 1) := by decide +kernel
theorem dX0_passNight_52 : decode cX0_passNight 52 = .ok (.iload_n 3, 1) := by decide +kernel
theorem dX0_passNight_53 : decode cX0_passNight 53 = .ok (.invokevirtual 79, 3) := by decide +kernel
theorem dX0_passNight_56 : decode cX0_passNight 56 = .ok (.goto 11, 3) := by decide +kernel
theorem dX0_passNight_59 : decode cX0_passNight 59 = .ok (.iload_n 2, 1) := by decide +kernel
theorem dX0_passNight_60 : decode cX0_passNight 60 = .ok (.aload_n 0, 1) := by decide +kernel
theorem dX0_passNight_61 : decode cX0_passNight 61 = .ok (.iload_n 3, 1) := by decide +kernel
theorem dX0_passNight_62 : decode cX0_passNight 62 = .ok (.invokevirtual 83, 3) := by decide +kernel
theorem dX0_passNight_65 : decode cX0_passNight 65 = .ok (.iadd, 1) := by decide +kernel
theorem dX0_passNight_66 : decode cX0_passNight 66 = .ok (.istore_n 2, 1) := by decide +kernel
theorem dX0_passNight_67 : decode cX0_passNight 67 = .ok (.iinc 3 1, 3) := by decide +kernel
theorem dX0_passNight_70 : decode cX0_passNight 70 = .ok (.goto (-61), 3) := by decide +kernel
theorem dX0_passNight_73 : decode cX0_passNight 73 = .ok (.iconst 0, 1) := by decide +kernel
theorem dX0_passNight_74 : decode cX0_passNight 74 = .ok (.istore_n 3, 1) := by decide +kernel
theorem dX0_passNight_75 : decode cX0_passNight 75 = .ok (.iload_n 3, 1) := by decide +kernel
theorem dX0_passNight_76 : decode cX0_passNight 76 = .ok (.bipush 6, 2) := by decide +kernel
theorem dX0_passNight_78 : decode cX0_passNight 78 = .ok (.if_icmp .ge 33, 3) := by decide +kernel
theorem dX0_passNight_81 : decode cX0_passNight 81 = .ok (.aload_n 0, 1) := by decide +kernel
theorem dX0_passNight_82 : decode cX0_passNight 82 = .ok (.getfield 9, 3) := by decide +kernel
theorem dX0_passNight_85 : decode cX0_passNight 85 = .ok (.iload_n 3, 1) := by decide +kernel
theorem dX0_passNight_86 : decode cX0_passNight 86 = .ok (.bipush 60, 2) := by decide +kernel
theorem dX0_passNight_88 : decode cX0_passNight 88 = .ok (.aload_n 0, 1) := by decide +kernel
theorem dX0_passNight_89 : decode cX0_passNight 89 = .ok (.getfield 9, 3) := by decide +kernel
theorem dX0_passNight_92 : decode cX0_passNight 92 = .ok (.iload_n 3, 1) := by decide +kernel
theorem dX0_passNight_93 : decode cX0_passNight 93 = .ok (.iaload, 1) := by decide +kernel
theorem dX0_passNight_94 : decode cX0_passNight 94 = .ok (.aload_n 0, 1) := by decide +kernel
theorem dX0_passNight_95 : decode cX0_passNight 95 = .ok (.getfield 13, 3) := by decide +kernel
theorem dX0_passNight_98 : decode cX0_passNight 98 = .ok (.iload_n 3, 1) := by decide +kernel
theorem dX0_passNight_99 : decode cX0_passNight 99 = .ok (.iaload, 1) := by decide +kernel
theorem dX0_passNight_100 : decode cX0_passNight 100 = .ok (.iadd, 1) := by decide +kernel
theorem dX0_passNight_101 : decode cX0_passNight 101 = .ok (.invokestatic 86, 3) := by decide +kernel
theorem dX0_passNight_104 : decode cX0_passNight 104 = .ok (.iastore, 1) := by decide +kernel
theorem dX0_passNight_105 : decode cX0_passNight 105 = .ok (.iinc 3 1, 3) := by decide +kernel
theorem dX0_passNight_108 : decode cX0_passNight 108 = .ok (.goto (-33), 3) := by decide +kernel
theorem dX0_passNight_111 : decode cX0_passNight 111 = .ok (.aload_n 0, 1) := by decide +kernel
theorem dX0_passNight_112 : decode cX0_passNight 112 = .ok (.dup, 1) := by decide +kernel
theorem dX0_passNight_113 : decode cX0_passNight 113 = .ok (.getfield 47, 3) := by decide +kernel
theorem dX0_passNight_116 : decode cX0_passNight 116 = .ok (.iconst 1, 1) := by decide +kernel
theorem dX0_passNight_117 : decode cX0_passNight 117 = .ok (.iadd, 1) := by decide +kernel
theorem dX0_passNight_118 : decode cX0_passNight 118 = .ok (.putfield 47, 3) := by decide +kernel
theorem dX0_passNight_121 : decode cX0_passNight 121 = .ok (.iload_n 2, 1) := by decide +kernel
theorem dX0_passNight_122 : decode cX0_passNight 122 = .ok (.ireturn, 1) := by decide +kernel
theorem dX0_seize_0 : decode cX0_seize 0 = .ok (.aload_n 0, 1) := by decide +kernel
theorem dX0_seize_1 : decode cX0_seize 1 = .ok (.getfield 25, 3) := by decide +kernel
theorem dX0_seize_4 : decode cX0_seize 4 = .ok (.iload_n 1, 1) := by decide +kernel
theorem dX0_seize_5 : decode cX0_seize 5 = .ok (.bipush 7, 2) := by decide +kernel
theorem dX0_seize_7 : decode cX0_seize 7 = .ok (.iastore, 1) := by decide +kernel
theorem dX0_seize_8 : decode cX0_seize 8 = .ok (.aload_n 0, 1) := by decide +kernel
theorem dX0_seize_9 : decode cX0_seize 9 = .ok (.sipush 999, 3) := by decide +kernel
theorem dX0_seize_12 : decode cX0_seize 12 = .ok (.aload_n 0, 1) := by decide +kernel
theorem dX0_seize_13 : decode cX0_seize 13 = .ok (.getfield 50, 3) := by decide +kernel
theorem dX0_seize_16 : decode cX0_seize 16 = .ok (.iconst 1, 1) := by decide +kernel
theorem dX0_seize_17 : decode cX0_seize 17 = .ok (.iadd, 1) := by decide +kernel
theorem dX0_seize_18 : decode cX0_seize 18 = .ok (.invokestatic 86, 3) := by decide +kernel
theorem dX0_seize_21 : decode cX0_seize 21 = .ok (.putfield 50, 3) := by decide +kernel
theorem dX0_seize_24 : decode cX0_seize 24 = .ok (.aload_n 0, 1) := by decide +kernel
theorem dX0_seize_25 : decode cX0_seize 25 = .ok (.dup, 1) := by decide +kernel
theorem dX0_seize_26 : decode cX0_seize 26 = .ok (.getfield 72, 3) := by decide +kernel
theorem dX0_seize_29 : decode cX0_seize 29 = .ok (.iconst 1, 1) := by decide +kernel
theorem dX0_seize_30 : decode cX0_seize 30 = .ok (.iload_n 1, 1) := by decide +kernel
theorem dX0_seize_31 : decode cX0_seize 31 = .ok (.ishl, 1) := by decide +kernel
theorem dX0_seize_32 : decode cX0_seize 32 = .ok (.ior, 1) := by decide +kernel
theorem dX0_seize_33 : decode cX0_seize 33 = .ok (.putfield 72, 3) := by decide +kernel
theorem dX0_seize_36 : decode cX0_seize 36 = .ok (.return_, 1) := by decide +kernel
theorem dX0_fillBag_0 : decode cX0_fillBag 0 = .ok (.aload_n 0, 1) := by decide +kernel
theorem dX0_fillBag_1 : decode cX0_fillBag 1 = .ok (.getfield 19, 3) := by decide +kernel
theorem dX0_fillBag_4 : decode cX0_fillBag 4 = .ok (.iload_n 1, 1) := by decide +kernel
theorem dX0_fillBag_5 : decode cX0_fillBag 5 = .ok (.iaload, 1) := by decide +kernel
theorem dX0_fillBag_6 : decode cX0_fillBag 6 = .ok (.istore_n 2, 1) := by decide +kernel
theorem dX0_fillBag_7 : decode cX0_fillBag 7 = .ok (.aload_n 0, 1) := by decide +kernel
theorem dX0_fillBag_8 : decode cX0_fillBag 8 = .ok (.iload_n 1, 1) := by decide +kernel
theorem dX0_fillBag_9 : decode cX0_fillBag 9 = .ok (.invokevirtual 92, 3) := by decide +kernel
theorem dX0_fillBag_12 : decode cX0_fillBag 12 = .ok (.aload_n 0, 1) := by decide +kernel
theorem dX0_fillBag_13 : decode cX0_fillBag 13 = .ok (.getfield 9, 3) := by decide +kernel
theorem dX0_fillBag_16 : decode cX0_fillBag 16 = .ok (.iload_n 2, 1) := by decide +kernel
theorem dX0_fillBag_17 : decode cX0_fillBag 17 = .ok (.iaload, 1) := by decide +kernel
theorem dX0_fillBag_18 : decode cX0_fillBag 18 = .ok (.invokestatic 86, 3) := by decide +kernel
theorem dX0_fillBag_21 : decode cX0_fillBag 21 = .ok (.istore_n 3, 1) := by decide +kernel
theorem dX0_fillBag_22 : decode cX0_fillBag 22 = .ok (.aload_n 0, 1) := by decide +kernel
theorem dX0_fillBag_23 : decode cX0_fillBag 23 = .ok (.getfield 9, 3) := by decide +kernel
theorem dX0_fillBag_26 : decode cX0_fillBag 26 = .ok (.iload_n 2, 1) := by decide +kernel
theorem dX0_fillBag_27 : decode cX0_fillBag 27 = .ok (.dup2, 1) := by decide +kernel
theorem dX0_fillBag_28 : decode cX0_fillBag 28 = .ok (.iaload, 1) := by decide +kernel
theorem dX0_fillBag_29 : decode cX0_fillBag 29 = .ok (.iload_n 3, 1) := by decide +kernel
theorem dX0_fillBag_30 : decode cX0_fillBag 30 = .ok (.isub, 1) := by decide +kernel
theorem dX0_fillBag_31 : decode cX0_fillBag 31 = .ok (.iastore, 1) := by decide +kernel
theorem dX0_fillBag_32 : decode cX0_fillBag 32 = .ok (.aload_n 0, 1) := by decide +kernel
theorem dX0_fillBag_33 : decode cX0_fillBag 33 = .ok (.getfield 22, 3) := by decide +kernel
theorem dX0_fillBag_36 : decode cX0_fillBag 36 = .ok (.iload_n 1, 1) := by decide +kernel
theorem dX0_fillBag_37 : decode cX0_fillBag 37 = .ok (.sipush 999, 3) := by decide +kernel
theorem dX0_fillBag_40 : decode cX0_fillBag 40 = .ok (.aload_n 0, 1) := by decide +kernel
theorem dX0_fillBag_41 : decode cX0_fillBag 41 = .ok (.getfield 22, 3) := by decide +kernel
theorem dX0_fillBag_44 : decode cX0_fillBag 44 = .ok (.iload_n 1, 1) := by decide +kernel
theorem dX0_fillBag_45 : decode cX0_fillBag 45 = .ok (.iaload, 1) := by decide +kernel
theorem dX0_fillBag_46 : decode cX0_fillBag 46 = .ok (.iload_n 3, 1) := by decide +kernel
theorem dX0_fillBag_47 : decode cX0_fillBag 47 = .ok (.iadd, 1) := by decide +kernel
theorem dX0_fillBag_48 : decode cX0_fillBag 48 = .ok (.invokestatic 86, 3) := by decide +kernel
theorem dX0_fillBag_51 : decode cX0_fillBag 51 = .ok (.iastore, 1) := by decide +kernel
theorem dX0_fillBag_52 : decode cX0_fillBag 52 = .ok (.iload_n 3, 1) := by decide +kernel
theorem dX0_fillBag_53 : decode cX0_fillBag 53 = .ok (.ireturn, 1) := by decide +kernel
theorem dX0_lightOfAll_0 : decode cX0_lightOfAll 0 = .ok (.aload_n 0, 1) := by decide +kernel
theorem dX0_lightOfAll_1 : decode cX0_lightOfAll 1 = .ok (.getfield 9, 3) := by decide +kernel
theorem dX0_lightOfAll_4 : decode cX0_lightOfAll 4 = .ok (.bipush 6, 2) := by decide +kernel
theorem dX0_lightOfAll_6 : decode cX0_lightOfAll 6 = .ok (.invokestatic 95, 3) := by decide +kernel
theorem dX0_lightOfAll_9 : decode cX0_lightOfAll 9 = .ok (.ireturn, 1) := by decide +kernel
theorem dX0_growthOfAll_0 : decode cX0_growthOfAll 0 = .ok (.aload_n 0, 1) := by decide +kernel
theorem dX0_growthOfAll_1 : decode cX0_growthOfAll 1 = .ok (.getfield 13, 3) := by decide +kernel
theorem dX0_growthOfAll_4 : decode cX0_growthOfAll 4 = .ok (.bipush 6, 2) := by decide +kernel
theorem dX0_growthOfAll_6 : decode cX0_growthOfAll 6 = .ok (.invokestatic 95, 3) := by decide +kernel
theorem dX0_growthOfAll_9 : decode cX0_growthOfAll 9 = .ok (.ireturn, 1) := by decide +kernel
theorem dX0_bagsOfAll_0 : decode cX0_bagsOfAll 0 = .ok (.aload_n 0, 1) := by decide +kernel
theorem dX0_bagsOfAll_1 : decode cX0_bagsOfAll 1 = .ok (.getfield 22, 3) := by decide +kernel
theorem dX0_bagsOfAll_4 : decode cX0_bagsOfAll 4 = .ok (.aload_n 0, 1) := by decide +kernel
theorem dX0_bagsOfAll_5 : decode cX0_bagsOfAll 5 = .ok (.getfield 40, 3) := by decide +kernel
theorem dX0_bagsOfAll_8 : decode cX0_bagsOfAll 8 = .ok (.invokestatic 95, 3) := by decide +kernel
theorem dX0_bagsOfAll_11 : decode cX0_bagsOfAll 11 = .ok (.ireturn, 1) := by decide +kernel
theorem dX0_earsOfAll_0 : decode cX0_earsOfAll 0 = .ok (.aload_n 0, 1) := by decide +kernel
theorem dX0_earsOfAll_1 : decode cX0_earsOfAll 1 = .ok (.getfield 34, 3) := by decide +kernel
theorem dX0_earsOfAll_4 : decode cX0_earsOfAll 4 = .ok (.aload_n 0, 1) := by decide +kernel
theorem dX0_earsOfAll_5 : decode cX0_earsOfAll 5 = .ok (.getfield 44, 3) := by decide +kernel
theorem dX0_earsOfAll_8 : decode cX0_earsOfAll 8 = .ok (.invokestatic 95, 3) := by decide +kernel
theorem dX0_earsOfAll_11 : decode cX0_earsOfAll 11 = .ok (.ireturn, 1) := by decide +kernel
theorem dX0_sum_0 : decode cX0_sum 0 = .ok (.iconst 0, 1) := by decide +kernel
theorem dX0_sum_1 : decode cX0_sum 1 = .ok (.istore_n 2, 1) := by decide +kernel
theorem dX0_sum_2 : decode cX0_sum 2 = .ok (.iconst 0, 1) := by decide +kernel
theorem dX0_sum_3 : decode cX0_sum 3 = .ok (.istore_n 3, 1) := by decide +kernel
theorem dX0_sum_4 : decode cX0_sum 4 = .ok (.iload_n 3, 1) := by decide +kernel
theorem dX0_sum_5 : decode cX0_sum 5 = .ok (.iload_n 1, 1) := by decide +kernel
theorem dX0_sum_6 : decode cX0_sum 6 = .ok (.if_icmp .ge 21, 3) := by decide +kernel
theorem dX0_sum_9 : decode cX0_sum 9 = .ok (.iload_n 3, 1) := by decide +kernel
theorem dX0_sum_10 : decode cX0_sum 10 = .ok (.aload_n 0, 1) := by decide +kernel
theorem dX0_sum_11 : decode cX0_sum 11 = .ok (.arraylength, 1) := by decide +kernel
theorem dX0_sum_12 : decode cX0_sum 12 = .ok (.if_icmp .ge 15, 3) := by decide +kernel
theorem dX0_sum_15 : decode cX0_sum 15 = .ok (.iload_n 2, 1) := by decide +kernel
theorem dX0_sum_16 : decode cX0_sum 16 = .ok (.aload_n 0, 1) := by decide +kernel
theorem dX0_sum_17 : decode cX0_sum 17 = .ok (.iload_n 3, 1) := by decide +kernel
theorem dX0_sum_18 : decode cX0_sum 18 = .ok (.iaload, 1) := by decide +kernel
theorem dX0_sum_19 : decode cX0_sum 19 = .ok (.iadd, 1) := by decide +kernel
theorem dX0_sum_20 : decode cX0_sum 20 = .ok (.istore_n 2, 1) := by decide +kernel
theorem dX0_sum_21 : decode cX0_sum 21 = .ok (.iinc 3 1, 3) := by decide +kernel
theorem dX0_sum_24 : decode cX0_sum 24 = .ok (.goto (-20), 3) := by decide +kernel
theorem dX0_sum_27 : decode cX0_sum 27 = .ok (.iload_n 2, 1) := by decide +kernel
theorem dX0_sum_28 : decode cX0_sum 28 = .ok (.ireturn, 1) := by decide +kernel
theorem dX0_heldBits_0 : decode cX0_heldBits 0 = .ok (.iconst 0, 1) := by decide +kernel
theorem dX0_heldBits_1 : decode cX0_heldBits 1 = .ok (.istore_n 1, 1) := by decide +kernel
theorem dX0_heldBits_2 : decode cX0_heldBits 2 = .ok (.iconst 0, 1) := by decide +kernel
theorem dX0_heldBits_3 : decode cX0_heldBits 3 = .ok (.istore_n 2, 1) := by decide +kernel
theorem dX0_heldBits_4 : decode cX0_heldBits 4 = .ok (.iload_n 2, 1) := by decide +kernel
theorem dX0_heldBits_5 : decode cX0_heldBits 5 = .ok (.aload_n 0, 1) := by decide +kernel
theorem dX0_heldBits_6 : decode cX0_heldBits 6 = .ok (.getfield 40, 3) := by decide +kernel
theorem dX0_heldBits_9 : decode cX0_heldBits 9 = .ok (.if_icmp .ge 28, 3) := by decide +kernel
theorem dX0_heldBits_12 : decode cX0_heldBits 12 = .ok (.iload_n 1, 1) := by decide +kernel
theorem dX0_heldBits_13 : decode cX0_heldBits 13 = .ok (.aload_n 0, 1) := by decide +kernel
theorem dX0_heldBits_14 : decode cX0_heldBits 14 = .ok (.getfield 25, 3) := by decide +kernel
theorem dX0_heldBits_17 : decode cX0_heldBits 17 = .ok (.iload_n 2, 1) := by decide +kernel
theorem dX0_heldBits_18 : decode cX0_heldBits 18 = .ok (.iaload, 1) := by decide +kernel
theorem dX0_heldBits_19 : decode cX0_heldBits 19 = .ok (.ifCond .le 9, 3) := by decide +kernel
theorem dX0_heldBits_22 : decode cX0_heldBits 22 = .ok (.iconst 1, 1) := by decide +kernel
theorem dX0_heldBits_23 : decode cX0_heldBits 23 = .ok (.iload_n 2, 1) := by decide +kernel
theorem dX0_heldBits_24 : decode cX0_heldBits 24 = .ok (.ishl, 1) := by decide +kernel
theorem dX0_heldBits_25 : decode cX0_heldBits 25 = .ok (.goto 4, 3) := by decide +kernel
theorem dX0_heldBits_28 : decode cX0_heldBits 28 = .ok (.iconst 0, 1) := by decide +kernel
theorem dX0_heldBits_29 : decode cX0_heldBits 29 = .ok (.ior, 1) := by decide +kernel
theorem dX0_heldBits_30 : decode cX0_heldBits 30 = .ok (.istore_n 1, 1) := by decide +kernel
theorem dX0_heldBits_31 : decode cX0_heldBits 31 = .ok (.iinc 2 1, 3) := by decide +kernel
theorem dX0_heldBits_34 : decode cX0_heldBits 34 = .ok (.goto (-30), 3) := by decide +kernel
theorem dX0_heldBits_37 : decode cX0_heldBits 37 = .ok (.iload_n 1, 1) := by decide +kernel
theorem dX0_heldBits_38 : decode cX0_heldBits 38 = .ok (.ireturn, 1) := by decide +kernel
theorem dX0_nextCaughtBits_0 : decode cX0_nextCaughtBits 0 = .ok (.iconst 0, 1) := by decide +kernel
theorem dX0_nextCaughtBits_1 : decode cX0_nextCaughtBits 1 = .ok (.istore_n 1, 1) := by decide +kernel
theorem dX0_nextCaughtBits_2 : decode cX0_nextCaughtBits 2 = .ok (.iconst 0, 1) := by decide +kernel
theorem dX0_nextCaughtBits_3 : decode cX0_nextCaughtBits 3 = .ok (.istore_n 2, 1) := by decide +kernel
theorem dX0_nextCaughtBits_4 : decode cX0_nextCaughtBits 4 = .ok (.iload_n 2, 1) := by decide +kernel
theorem dX0_nextCaughtBits_5 : decode cX0_nextCaughtBits 5 = .ok (.aload_n 0, 1) := by decide +kernel
theorem dX0_nextCaughtBits_6 : decode cX0_nextCaughtBits 6 = .ok (.getfield 40, 3) := by decide +kernel
theorem dX0_nextCaughtBits_9 : decode cX0_nextCaughtBits 9 = .ok (.if_icmp .ge 27, 3) := by decide +kernel
theorem dX0_nextCaughtBits_12 : decode cX0_nextCaughtBits 12 = .ok (.iload_n 1, 1) := by decide +kernel
theorem dX0_nextCaughtBits_13 : decode cX0_nextCaughtBits 13 = .ok (.aload_n 0, 1) := by decide +kernel
theorem dX0_nextCaughtBits_14 : decode cX0_nextCaughtBits 14 = .ok (.iload_n 2, 1) := by decide +kernel
theorem dX0_nextCaughtBits_15 : decode cX0_nextCaughtBits 15 = .ok (.invokevirtual 75, 3) := by decide +kernel
theorem dX0_nextCaughtBits_18 : decode cX0_nextCaughtBits 18 = .ok (.ifCond .eq 9, 3) := by decide +kernel
theorem dX0_nextCaughtBits_21 : decode cX0_nextCaughtBits 21 = .ok (.iconst 1, 1) := by decide +kernel
theorem dX0_nextCaughtBits_22 : decode cX0_nextCaughtBits 22 = .ok (.iload_n 2, 1) := by decide +kernel
theorem dX0_nextCaughtBits_23 : decode cX0_nextCaughtBits 23 = .ok (.ishl, 1) := by decide +kernel
theorem dX0_nextCaughtBits_24 : decode cX0_nextCaughtBits 24 = .ok (.goto 4, 3) := by decide +kernel
theorem dX0_nextCaughtBits_27 : decode cX0_nextCaughtBits 27 = .ok (.iconst 0, 1) := by decide +kernel
theorem dX0_nextCaughtBits_28 : decode cX0_nextCaughtBits 28 = .ok (.ior, 1) := by decide +kernel
theorem dX0_nextCaughtBits_29 : decode cX0_nextCaughtBits 29 = .ok (.istore_n 1, 1) := by decide +kernel
theorem dX0_nextCaughtBits_30 : decode cX0_nextCaughtBits 30 = .ok (.iinc 2 1, 3) := by decide +kernel
theorem dX0_nextCaughtBits_33 : decode cX0_nextCaughtBits 33 = .ok (.goto (-29), 3) := by decide +kernel
theorem dX0_nextCaughtBits_36 : decode cX0_nextCaughtBits 36 = .ok (.iload_n 1, 1) := by decide +kernel
theorem dX0_nextCaughtBits_37 : decode cX0_nextCaughtBits 37 = .ok (.ireturn, 1) := by decide +kernel
theorem dX0_takerBitsAt_0 : decode cX0_takerBitsAt 0 = .ok (.iconst 0, 1) := by decide +kernel
theorem dX0_takerBitsAt_1 : decode cX0_takerBitsAt 1 = .ok (.istore_n 2, 1) := by decide +kernel
theorem dX0_takerBitsAt_2 : decode cX0_takerBitsAt 2 = .ok (.iconst 0, 1) := by decide +kernel
theorem dX0_takerBitsAt_3 : decode cX0_takerBitsAt 3 = .ok (.istore_n 3, 1) := by decide +kernel
theorem dX0_takerBitsAt_4 : decode cX0_takerBitsAt 4 = .ok (.iload_n 3, 1) := by decide +kernel
theorem dX0_takerBitsAt_5 : decode cX0_takerBitsAt 5 = .ok (.aload_n 0, 1) := by decide +kernel
theorem dX0_takerBitsAt_6 : decode cX0_takerBitsAt 6 = .ok (.getfield 40, 3) := by decide +kernel
theorem dX0_takerBitsAt_9 : decode cX0_takerBitsAt 9 = .ok (.if_icmp .ge 29, 3) := by decide +kernel
theorem dX0_takerBitsAt_12 : decode cX0_takerBitsAt 12 = .ok (.iload_n 2, 1) := by decide +kernel
theorem dX0_takerBitsAt_13 : decode cX0_takerBitsAt 13 = .ok (.aload_n 0, 1) := by decide +kernel
theorem dX0_takerBitsAt_14 : decode cX0_takerBitsAt 14 = .ok (.getfield 19, 3) := by decide +kernel
theorem dX0_takerBitsAt_17 : decode cX0_takerBitsAt 17 = .ok (.iload_n 3, 1) := by decide +kernel
theorem dX0_takerBitsAt_18 : decode cX0_takerBitsAt 18 = .ok (.iaload, 1) := by decide +kernel
theorem dX0_takerBitsAt_19 : decode cX0_takerBitsAt 19 = .ok (.iload_n 1, 1) := by decide +kernel
theorem dX0_takerBitsAt_20 : decode cX0_takerBitsAt 20 = .ok (.if_icmp .ne 9, 3) := by decide +kernel
theorem dX0_takerBitsAt_23 : decode cX0_takerBitsAt 23 = .ok (.iconst 1, 1) := by decide +kernel
theorem dX0_takerBitsAt_24 : decode cX0_takerBitsAt 24 = .ok (.iload_n 3, 1) := by decide +kernel
theorem dX0_takerBitsAt_25 : decode cX0_takerBitsAt 25 = .ok (.ishl, 1) := by decide +kernel
theorem dX0_takerBitsAt_26 : decode cX0_takerBitsAt 26 = .ok (.goto 4, 3) := by decide +kernel
theorem dX0_takerBitsAt_29 : decode cX0_takerBitsAt 29 = .ok (.iconst 0, 1) := by decide +kernel
theorem dX0_takerBitsAt_30 : decode cX0_takerBitsAt 30 = .ok (.ior, 1) := by decide +kernel
theorem dX0_takerBitsAt_31 : decode cX0_takerBitsAt 31 = .ok (.istore_n 2, 1) := by decide +kernel
theorem dX0_takerBitsAt_32 : decode cX0_takerBitsAt 32 = .ok (.iinc 3 1, 3) := by decide +kernel
theorem dX0_takerBitsAt_35 : decode cX0_takerBitsAt 35 = .ok (.goto (-31), 3) := by decide +kernel
theorem dX0_takerBitsAt_38 : decode cX0_takerBitsAt 38 = .ok (.iload_n 2, 1) := by decide +kernel
theorem dX0_takerBitsAt_39 : decode cX0_takerBitsAt 39 = .ok (.ireturn, 1) := by decide +kernel
theorem dX0_keeperBitsAt_0 : decode cX0_keeperBitsAt 0 = .ok (.iconst 0, 1) := by decide +kernel
theorem dX0_keeperBitsAt_1 : decode cX0_keeperBitsAt 1 = .ok (.istore_n 2, 1) := by decide +kernel
theorem dX0_keeperBitsAt_2 : decode cX0_keeperBitsAt 2 = .ok (.iconst 0, 1) := by decide +kernel
theorem dX0_keeperBitsAt_3 : decode cX0_keeperBitsAt 3 = .ok (.istore_n 3, 1) := by decide +kernel
theorem dX0_keeperBitsAt_4 : decode cX0_keeperBitsAt 4 = .ok (.iload_n 3, 1) := by decide +kernel
theorem dX0_keeperBitsAt_5 : decode cX0_keeperBitsAt 5 = .ok (.aload_n 0, 1) := by decide +kernel
theorem dX0_keeperBitsAt_6 : decode cX0_keeperBitsAt 6 = .ok (.getfield 44, 3) := by decide +kernel
theorem dX0_keeperBitsAt_9 : decode cX0_keeperBitsAt 9 = .ok (.if_icmp .ge 28, 3) := by decide +kernel
theorem dX0_keeperBitsAt_12 : decode cX0_keeperBitsAt 12 = .ok (.iload_n 2, 1) := by decide +kernel
theorem dX0_keeperBitsAt_13 : decode cX0_keeperBitsAt 13 = .ok (.aload_n 0, 1) := by decide +kernel
theorem dX0_keeperBitsAt_14 : decode cX0_keeperBitsAt 14 = .ok (.iload_n 3, 1) := by decide +kernel
theorem dX0_keeperBitsAt_15 : decode cX0_keeperBitsAt 15 = .ok (.invokevirtual 65, 3) := by decide +kernel
theorem dX0_keeperBitsAt_18 : decode cX0_keeperBitsAt 18 = .ok (.iload_n 1, 1) := by decide +kernel
theorem dX0_keeperBitsAt_19 : decode cX0_keeperBitsAt 19 = .ok (.if_icmp .ne 9, 3) := by decide +kernel
theorem dX0_keeperBitsAt_22 : decode cX0_keeperBitsAt 22 = .ok (.iconst 1, 1) := by decide +kernel
theorem dX0_keeperBitsAt_23 : decode cX0_keeperBitsAt 23 = .ok (.iload_n 3, 1) := by decide +kernel
theorem dX0_keeperBitsAt_24 : decode cX0_keeperBitsAt 24 = .ok (.ishl, 1) := by decide +kernel
theorem dX0_keeperBitsAt_25 : decode cX0_keeperBitsAt 25 = .ok (.goto 4, 3) := by decide +kernel
theorem dX0_keeperBitsAt_28 : decode cX0_keeperBitsAt 28 = .ok (.iconst 0, 1) := by decide +kernel
theorem dX0_keeperBitsAt_29 : decode cX0_keeperBitsAt 29 = .ok (.ior, 1) := by decide +kernel
theorem dX0_keeperBitsAt_30 : decode cX0_keeperBitsAt 30 = .ok (.istore_n 2, 1) := by decide +kernel
theorem dX0_keeperBitsAt_31 : decode cX0_keeperBitsAt 31 = .ok (.iinc 3 1, 3) := by decide +kernel
theorem dX0_keeperBitsAt_34 : decode cX0_keeperBitsAt 34 = .ok (.goto (-30), 3) := by decide +kernel
theorem dX0_keeperBitsAt_37 : decode cX0_keeperBitsAt 37 = .ok (.iload_n 2, 1) := by decide +kernel
theorem dX0_keeperBitsAt_38 : decode cX0_keeperBitsAt 38 = .ok (.ireturn, 1) := by decide +kernel
theorem dX1_init_0 : decode cX1_init 0 = .ok (.aload_n 0, 1) := by decide +kernel
theorem dX1_init_1 : decode cX1_init 1 = .ok (.invokespecial 5, 3) := by decide +kernel
theorem dX1_init_4 : decode cX1_init 4 = .ok (.aload_n 0, 1) := by decide +kernel
theorem dX1_init_5 : decode cX1_init 5 = .ok (.bipush 6, 2) := by decide +kernel
theorem dX1_init_7 : decode cX1_init 7 = .ok (.bipush 126, 2) := by decide +kernel
theorem dX1_init_9 : decode cX1_init 9 = .ok (.multianewarray 13 2, 4) := by decide +kernel
theorem dX1_init_13 : decode cX1_init 13 = .ok (.putfield 15, 3) := by decide +kernel
theorem dX1_init_16 : decode cX1_init 16 = .ok (.return_, 1) := by decide +kernel
theorem dX1_clear_0 : decode cX1_clear 0 = .ok (.aload_n 0, 1) := by decide +kernel
theorem dX1_clear_1 : decode cX1_clear 1 = .ok (.iconst 0, 1) := by decide +kernel
theorem dX1_clear_2 : decode cX1_clear 2 = .ok (.putfield 18, 3) := by decide +kernel
theorem dX1_clear_5 : decode cX1_clear 5 = .ok (.return_, 1) := by decide +kernel
theorem dX1_add_0 : decode cX1_add 0 = .ok (.aload_n 0, 1) := by decide +kernel
theorem dX1_add_1 : decode cX1_add 1 = .ok (.getfield 18, 3) := by decide +kernel
theorem dX1_add_4 : decode cX1_add 4 = .ok (.bipush 6, 2) := by decide +kernel
theorem dX1_add_6 : decode cX1_add 6 = .ok (.if_icmp .lt 4, 3) := by decide +kernel
theorem dX1_add_9 : decode cX1_add 9 = .ok (.return_, 1) := by decide +kernel
theorem dX1_add_10 : decode cX1_add 10 = .ok (.iconst 0, 1) := by decide +kernel
theorem dX1_add_11 : decode cX1_add 11 = .ok (.istore_n 2, 1) := by decide +kernel
theorem dX1_add_12 : decode cX1_add 12 = .ok (.iload_n 2, 1) := by decide +kernel
theorem dX1_add_13 : decode cX1_add 13 = .ok (.bipush 20, 2) := by decide +kernel
theorem dX1_add_15 : decode cX1_add 15 = .ok (.if_icmp .gt 40, 3) := by decide +kernel
theorem dX1_add_18 : decode cX1_add 18 = .ok (.aload_n 1, 1) := by decide +kernel
theorem dX1_add_19 : decode cX1_add 19 = .ok (.getfield 22, 3) := by decide +kernel
theorem dX1_add_22 : decode cX1_add 22 = .ok (.getfield 28, 3) := by decide +kernel
theorem dX1_add_25 : decode cX1_add 25 = .ok (.iconst 0, 1) := by decide +kernel
theorem dX1_add_26 : decode cX1_add 26 = .ok (.aload_n 0, 1) := by decide +kernel
theorem dX1_add_27 : decode cX1_add 27 = .ok (.getfield 15, 3) := by decide +kernel
theorem dX1_add_30 : decode cX1_add 30 = .ok (.aload_n 0, 1) := by decide +kernel
theorem dX1_add_31 : decode cX1_add 31 = .ok (.getfield 18, 3) := by decide +kernel
theorem dX1_add_34 : decode cX1_add 34 = .ok (.aaload, 1) := by decide +kernel
theorem dX1_add_35 : decode cX1_add 35 = .ok (.iload_n 2, 1) := by decide +kernel
theorem dX1_add_36 : decode cX1_add 36 = .ok (.bipush 6, 2) := by decide +kernel
theorem dX1_add_38 : decode cX1_add 38 = .ok (.imul, 1) := by decide +kernel
theorem dX1_add_39 : decode cX1_add 39 = .ok (.bipush 6, 2) := by decide +kernel
theorem dX1_add_41 : decode cX1_add 41 = .ok (.invokestatic 31, 3) := by decide +kernel
theorem dX1_add_44 : decode cX1_add 44 = .ok (.aload_n 1, 1) := by decide +kernel
theorem dX1_add_45 : decode cX1_add 45 = .ok (.iconst 0, 1) := by decide +kernel
theorem dX1_add_46 : decode cX1_add 46 = .ok (.invokevirtual 37, 3) := by decide +kernel
theorem dX1_add_49 : decode cX1_add 49 = .ok (.iinc 2 1, 3) := by decide +kernel
theorem dX1_add_52 : decode cX1_add 52 = .ok (.goto (-40), 3) := by decide +kernel
theorem dX1_add_55 : decode cX1_add 55 = .ok (.aload_n 0, 1) := by decide +kernel
theorem dX1_add_56 : decode cX1_add 56 = .ok (.dup, 1) := by decide +kernel
theorem dX1_add_57 : decode cX1_add 57 = .ok (.getfield 18, 3) := by decide +kernel
theorem dX1_add_60 : decode cX1_add 60 = .ok (.iconst 1, 1) := by decide +kernel
theorem dX1_add_61 : decode cX1_add 61 = .ok (.iadd, 1) := by decide +kernel
theorem dX1_add_62 : decode cX1_add 62 = .ok (.putfield 18, 3) := by decide +kernel
theorem dX1_add_65 : decode cX1_add 65 = .ok (.return_, 1) := by decide +kernel
theorem dX1_leftAtWorst_0 : decode cX1_leftAtWorst 0 = .ok (.iload_n 1, 1) := by decide +kernel
theorem dX1_leftAtWorst_1 : decode cX1_leftAtWorst 1 = .ok (.bipush 6, 2) := by decide +kernel
theorem dX1_leftAtWorst_3 : decode cX1_leftAtWorst 3 = .ok (.imul, 1) := by decide +kernel
theorem dX1_leftAtWorst_4 : decode cX1_leftAtWorst 4 = .ok (.iload_n 2, 1) := by decide +kernel
theorem dX1_leftAtWorst_5 : decode cX1_leftAtWorst 5 = .ok (.iadd, 1) := by decide +kernel
theorem dX1_leftAtWorst_6 : decode cX1_leftAtWorst 6 = .ok (.istore_n 3, 1) := by decide +kernel
theorem dX1_leftAtWorst_7 : decode cX1_leftAtWorst 7 = .ok (.iconst 0, 1) := by decide +kernel
theorem dX1_leftAtWorst_8 : decode cX1_leftAtWorst 8 = .ok (.istore 4, 2) := by decide +kernel
theorem dX1_leftAtWorst_10 : decode cX1_leftAtWorst 10 = .ok (.iconst 0, 1) := by decide +kernel
theorem dX1_leftAtWorst_11 : decode cX1_leftAtWorst 11 = .ok (.istore 5, 2) := by decide +kernel
theorem dX1_leftAtWorst_13 : decode cX1_leftAtWorst 13 = .ok (.iload 5, 2) := by decide +kernel
theorem dX1_leftAtWorst_15 : decode cX1_leftAtWorst 15 = .ok (.aload_n 0, 1) := by decide +kernel
theorem dX1_leftAtWorst_16 : decode cX1_leftAtWorst 16 = .ok (.getfield 18, 3) := by decide +kernel
theorem dX1_leftAtWorst_19 : decode cX1_leftAtWorst 19 = .ok (.if_icmp .ge 70, 3) := by decide +kernel
theorem dX1_leftAtWorst_22 : decode cX1_leftAtWorst 22 = .ok (.iconst 0, 1) := by decide +kernel
theorem dX1_leftAtWorst_23 : decode cX1_leftAtWorst 23 = .ok (.istore 6, 2) := by decide +kernel
theorem dX1_leftAtWorst_25 : decode cX1_leftAtWorst 25 = .ok (.iconst 0, 1) := by decide +kernel
theorem dX1_leftAtWorst_26 : decode cX1_leftAtWorst 26 = .ok (.istore 7, 2) := by decide +kernel
theorem dX1_leftAtWorst_28 : decode cX1_leftAtWorst 28 = .ok (.iload 7, 2) := by decide +kernel
theorem dX1_leftAtWorst_30 : decode cX1_leftAtWorst 30 = .ok (.aload_n 0, 1) := by decide +kernel
theorem dX1_leftAtWorst_31 : decode cX1_leftAtWorst 31 = .ok (.getfield 18, 3) := by decide +kernel
theorem dX1_leftAtWorst_34 : decode cX1_leftAtWorst 34 = .ok (.if_icmp .ge 40, 3) := by decide +kernel
theorem dX1_leftAtWorst_37 : decode cX1_leftAtWorst 37 = .ok (.iload 6, 2) := by decide +kernel
theorem dX1_leftAtWorst_39 : decode cX1_leftAtWorst 39 = .ok (.aload_n 0, 1) := by decide +kernel
theorem dX1_leftAtWorst_40 : decode cX1_leftAtWorst 40 = .ok (.getfield 15, 3) := by decide +kernel
theorem dX1_leftAtWorst_43 : decode cX1_leftAtWorst 43 = .ok (.iload 5, 2) := by decide +kernel
theorem dX1_leftAtWorst_45 : decode cX1_leftAtWorst 45 = .ok (.aaload, 1) := by decide +kernel
theorem dX1_leftAtWorst_46 : decode cX1_leftAtWorst 46 = .ok (.iload_n 3, 1) := by decide +kernel
theorem dX1_leftAtWorst_47 : decode cX1_leftAtWorst 47 = .ok (.iaload, 1) := by decide +kernel
theorem dX1_leftAtWorst_48 : decode cX1_leftAtWorst 48 = .ok (.aload_n 0, 1) := by decide +kernel
theorem dX1_leftAtWorst_49 : decode cX1_leftAtWorst 49 = .ok (.getfield 15, 3) := by decide +kernel
theorem dX1_leftAtWorst_52 : decode cX1_leftAtWorst 52 = .ok (.iload 7, 2) := by decide +kernel
theorem dX1_leftAtWorst_54 : decode cX1_leftAtWorst 54 = .ok (.aaload, 1) := by decide +kernel
theorem dX1_leftAtWorst_55 : decode cX1_leftAtWorst 55 = .ok (.iload_n 3, 1) := by decide +kernel
theorem dX1_leftAtWorst_56 : decode cX1_leftAtWorst 56 = .ok (.iaload, 1) := by decide +kernel
theorem dX1_leftAtWorst_57 : decode cX1_leftAtWorst 57 = .ok (.if_icmp .ne 7, 3) := by decide +kernel
theorem dX1_leftAtWorst_60 : decode cX1_leftAtWorst 60 = .ok (.iconst 1, 1) := by decide +kernel
theorem dX1_leftAtWorst_61 : decode cX1_leftAtWorst 61 = .ok (.goto 4, 3) := by decide +kernel
theorem dX1_leftAtWorst_64 : decode cX1_leftAtWorst 64 = .ok (.iconst 0, 1) := by decide +kernel
theorem dX1_leftAtWorst_65 : decode cX1_leftAtWorst 65 = .ok (.iadd, 1) := by decide +kernel
theorem dX1_leftAtWorst_66 : decode cX1_leftAtWorst 66 = .ok (.istore 6, 2) := by decide +kernel
theorem dX1_leftAtWorst_68 : decode cX1_leftAtWorst 68 = .ok (.iinc 7 1, 3) := by decide +kernel
theorem dX1_leftAtWorst_71 : decode cX1_leftAtWorst 71 = .ok (.goto (-43), 3) := by decide +kernel
theorem dX1_leftAtWorst_74 : decode cX1_leftAtWorst 74 = .ok (.iload 4, 2) := by decide +kernel
theorem dX1_leftAtWorst_76 : decode cX1_leftAtWorst 76 = .ok (.iload 6, 2) := by decide +kernel
theorem dX1_leftAtWorst_78 : decode cX1_leftAtWorst 78 = .ok (.invokestatic 41, 3) := by decide +kernel
theorem dX1_leftAtWorst_81 : decode cX1_leftAtWorst 81 = .ok (.istore 4, 2) := by decide +kernel
theorem dX1_leftAtWorst_83 : decode cX1_leftAtWorst 83 = .ok (.iinc 5 1, 3) := by decide +kernel
theorem dX1_leftAtWorst_86 : decode cX1_leftAtWorst 86 = .ok (.goto (-73), 3) := by decide +kernel
theorem dX1_leftAtWorst_89 : decode cX1_leftAtWorst 89 = .ok (.iload 4, 2) := by decide +kernel
theorem dX1_leftAtWorst_91 : decode cX1_leftAtWorst 91 = .ok (.ireturn, 1) := by decide +kernel
theorem dX2_init_0 : decode cX2_init 0 = .ok (.aload_n 0, 1) := by decide +kernel
theorem dX2_init_1 : decode cX2_init 1 = .ok (.invokespecial 1, 3) := by decide +kernel
theorem dX2_init_4 : decode cX2_init 4 = .ok (.aload_n 0, 1) := by decide +kernel
theorem dX2_init_5 : decode cX2_init 5 = .ok (.bipush 40, 2) := by decide +kernel
theorem dX2_init_7 : decode cX2_init 7 = .ok (.newarray .int, 2) := by decide +kernel
theorem dX2_init_9 : decode cX2_init 9 = .ok (.putfield 9, 3) := by decide +kernel
theorem dX2_init_12 : decode cX2_init 12 = .ok (.aload_n 0, 1) := by decide +kernel
theorem dX2_init_13 : decode cX2_init 13 = .ok (.iconst (-1), 1) := by decide +kernel
theorem dX2_init_14 : decode cX2_init 14 = .ok (.putfield 13, 3) := by decide +kernel
theorem dX2_init_17 : decode cX2_init 17 = .ok (.return_, 1) := by decide +kernel
theorem dX2_isNothing_0 : decode cX2_isNothing 0 = .ok (.aload_n 0, 1) := by decide +kernel
theorem dX2_isNothing_1 : decode cX2_isNothing 1 = .ok (.getfield 13, 3) := by decide +kernel
theorem dX2_isNothing_4 : decode cX2_isNothing 4 = .ok (.iconst (-1), 1) := by decide +kernel
theorem dX2_isNothing_5 : decode cX2_isNothing 5 = .ok (.if_icmp .ne 7, 3) := by decide +kernel
theorem dX2_isNothing_8 : decode cX2_isNothing 8 = .ok (.iconst 1, 1) := by decide +kernel
theorem dX2_isNothing_9 : decode cX2_isNothing 9 = .ok (.goto 4, 3) := by decide +kernel
theorem dX2_isNothing_12 : decode cX2_isNothing 12 = .ok (.iconst 0, 1) := by decide +kernel
theorem dX2_isNothing_13 : decode cX2_isNothing 13 = .ok (.ireturn, 1) := by decide +kernel
theorem dX2_renew_0 : decode cX2_renew 0 = .ok (.aload_n 0, 1) := by decide +kernel
theorem dX2_renew_1 : decode cX2_renew 1 = .ok (.iload_n 1, 1) := by decide +kernel
theorem dX2_renew_2 : decode cX2_renew 2 = .ok (.putfield 13, 3) := by decide +kernel
theorem dX2_renew_5 : decode cX2_renew 5 = .ok (.aload_n 0, 1) := by decide +kernel
theorem dX2_renew_6 : decode cX2_renew 6 = .ok (.iload_n 2, 1) := by decide +kernel
theorem dX2_renew_7 : decode cX2_renew 7 = .ok (.putfield 17, 3) := by decide +kernel
theorem dX2_renew_10 : decode cX2_renew 10 = .ok (.iconst 0, 1) := by decide +kernel
theorem dX2_renew_11 : decode cX2_renew 11 = .ok (.istore_n 3, 1) := by decide +kernel
theorem dX2_renew_12 : decode cX2_renew 12 = .ok (.iload_n 3, 1) := by decide +kernel
theorem dX2_renew_13 : decode cX2_renew 13 = .ok (.bipush 40, 2) := by decide +kernel
theorem dX2_renew_15 : decode cX2_renew 15 = .ok (.if_icmp .ge 16, 3) := by decide +kernel
theorem dX2_renew_18 : decode cX2_renew 18 = .ok (.aload_n 0, 1) := by decide +kernel
theorem dX2_renew_19 : decode cX2_renew 19 = .ok (.getfield 9, 3) := by decide +kernel
theorem dX2_renew_22 : decode cX2_renew 22 = .ok (.iload_n 3, 1) := by decide +kernel
theorem dX2_renew_23 : decode cX2_renew 23 = .ok (.iconst 0, 1) := by decide +kernel
theorem dX2_renew_24 : decode cX2_renew 24 = .ok (.iastore, 1) := by decide +kernel
theorem dX2_renew_25 : decode cX2_renew 25 = .ok (.iinc 3 1, 3) := by decide +kernel
theorem dX2_renew_28 : decode cX2_renew 28 = .ok (.goto (-16), 3) := by decide +kernel
theorem dX2_renew_31 : decode cX2_renew 31 = .ok (.return_, 1) := by decide +kernel
theorem dX2_lacks_0 : decode cX2_lacks 0 = .ok (.iload_n 1, 1) := by decide +kernel
theorem dX2_lacks_1 : decode cX2_lacks 1 = .ok (.ifCond .lt 11, 3) := by decide +kernel
theorem dX2_lacks_4 : decode cX2_lacks 4 = .ok (.iload_n 1, 1) := by decide +kernel
theorem dX2_lacks_5 : decode cX2_lacks 5 = .ok (.aload_n 0, 1) := by decide +kernel
theorem dX2_lacks_6 : decode cX2_lacks 6 = .ok (.getfield 17, 3) := by decide +kernel
theorem dX2_lacks_9 : decode cX2_lacks 9 = .ok (.if_icmp .lt 7, 3) := by decide +kernel
theorem dX2_lacks_12 : decode cX2_lacks 12 = .ok (.iconst 1, 1) := by decide +kernel
theorem dX2_lacks_13 : decode cX2_lacks 13 = .ok (.goto 4, 3) := by decide +kernel
theorem dX2_lacks_16 : decode cX2_lacks 16 = .ok (.iconst 0, 1) := by decide +kernel
theorem dX2_lacks_17 : decode cX2_lacks 17 = .ok (.ireturn, 1) := by decide +kernel
theorem dX2_put_0 : decode cX2_put 0 = .ok (.aload_n 0, 1) := by decide +kernel
theorem dX2_put_1 : decode cX2_put 1 = .ok (.iload_n 1, 1) := by decide +kernel
theorem dX2_put_2 : decode cX2_put 2 = .ok (.invokevirtual 20, 3) := by decide +kernel
theorem dX2_put_5 : decode cX2_put 5 = .ok (.ifCond .eq 5, 3) := by decide +kernel
theorem dX2_put_8 : decode cX2_put 8 = .ok (.iconst 0, 1) := by decide +kernel
theorem dX2_put_9 : decode cX2_put 9 = .ok (.ireturn, 1) := by decide +kernel
theorem dX2_put_10 : decode cX2_put 10 = .ok (.aload_n 0, 1) := by decide +kernel
theorem dX2_put_11 : decode cX2_put 11 = .ok (.getfield 9, 3) := by decide +kernel
theorem dX2_put_14 : decode cX2_put 14 = .ok (.iload_n 1, 1) := by decide +kernel
theorem dX2_put_15 : decode cX2_put 15 = .ok (.aload_n 0, 1) := by decide +kernel
theorem dX2_put_16 : decode cX2_put 16 = .ok (.getfield 13, 3) := by decide +kernel
theorem dX2_put_19 : decode cX2_put 19 = .ok (.ifCond .ne 8, 3) := by decide +kernel
theorem dX2_put_22 : decode cX2_put 22 = .ok (.iload_n 2, 1) := by decide +kernel
theorem dX2_put_23 : decode cX2_put 23 = .ok (.i2b, 1) := by decide +kernel
theorem dX2_put_24 : decode cX2_put 24 = .ok (.goto 17, 3) := by decide +kernel
theorem dX2_put_27 : decode cX2_put 27 = .ok (.aload_n 0, 1) := by decide +kernel
theorem dX2_put_28 : decode cX2_put 28 = .ok (.getfield 13, 3) := by decide +kernel
theorem dX2_put_31 : decode cX2_put 31 = .ok (.iconst 1, 1) := by decide +kernel
theorem dX2_put_32 : decode cX2_put 32 = .ok (.if_icmp .ne 8, 3) := by decide +kernel
theorem dX2_put_35 : decode cX2_put 35 = .ok (.iload_n 2, 1) := by decide +kernel
theorem dX2_put_36 : decode cX2_put 36 = .ok (.i2s, 1) := by decide +kernel
theorem dX2_put_37 : decode cX2_put 37 = .ok (.goto 4, 3) := by decide +kernel
theorem dX2_put_40 : decode cX2_put 40 = .ok (.iload_n 2, 1) := by decide +kernel
theorem dX2_put_41 : decode cX2_put 41 = .ok (.iastore, 1) := by decide +kernel
theorem dX2_put_42 : decode cX2_put 42 = .ok (.iconst 1, 1) := by decide +kernel
theorem dX2_put_43 : decode cX2_put 43 = .ok (.ireturn, 1) := by decide +kernel
theorem dX2_faultAs_0 : decode cX2_faultAs 0 = .ok (.aload_n 0, 1) := by decide +kernel
theorem dX2_faultAs_1 : decode cX2_faultAs 1 = .ok (.invokevirtual 24, 3) := by decide +kernel
theorem dX2_faultAs_4 : decode cX2_faultAs 4 = .ok (.ifCond .eq 5, 3) := by decide +kernel
theorem dX2_faultAs_7 : decode cX2_faultAs 7 = .ok (.iconst 1, 1) := by decide +kernel
theorem dX2_faultAs_8 : decode cX2_faultAs 8 = .ok (.ireturn, 1) := by decide +kernel
theorem dX2_faultAs_9 : decode cX2_faultAs 9 = .ok (.aload_n 0, 1) := by decide +kernel
theorem dX2_faultAs_10 : decode cX2_faultAs 10 = .ok (.getfield 13, 3) := by decide +kernel
theorem dX2_faultAs_13 : decode cX2_faultAs 13 = .ok (.iload_n 1, 1) := by decide +kernel
theorem dX2_faultAs_14 : decode cX2_faultAs 14 = .ok (.if_icmp .ne 7, 3) := by decide +kernel
theorem dX2_faultAs_17 : decode cX2_faultAs 17 = .ok (.iconst 0, 1) := by decide +kernel
theorem dX2_faultAs_18 : decode cX2_faultAs 18 = .ok (.goto 4, 3) := by decide +kernel
theorem dX2_faultAs_21 : decode cX2_faultAs 21 = .ok (.iconst 3, 1) := by decide +kernel
theorem dX2_faultAs_22 : decode cX2_faultAs 22 = .ok (.ireturn, 1) := by decide +kernel
theorem dX3_init_0 : decode cX3_init 0 = .ok (.aload_n 0, 1) := by decide +kernel
theorem dX3_init_1 : decode cX3_init 1 = .ok (.invokespecial 1, 3) := by decide +kernel
theorem dX3_init_4 : decode cX3_init 4 = .ok (.aload_n 0, 1) := by decide +kernel
theorem dX3_init_5 : decode cX3_init 5 = .ok (.bipush 6, 2) := by decide +kernel
theorem dX3_init_7 : decode cX3_init 7 = .ok (.newarray .int, 2) := by decide +kernel
theorem dX3_init_9 : decode cX3_init 9 = .ok (.putfield 9, 3) := by decide +kernel
theorem dX3_init_12 : decode cX3_init 12 = .ok (.aload_n 0, 1) := by decide +kernel
theorem dX3_init_13 : decode cX3_init 13 = .ok (.bipush 6, 2) := by decide +kernel
theorem dX3_init_15 : decode cX3_init 15 = .ok (.newarray .int, 2) := by decide +kernel
theorem dX3_init_17 : decode cX3_init 17 = .ok (.putfield 13, 3) := by decide +kernel
theorem dX3_init_20 : decode cX3_init 20 = .ok (.aload_n 0, 1) := by decide +kernel
theorem dX3_init_21 : decode cX3_init 21 = .ok (.bipush 6, 2) := by decide +kernel
theorem dX3_init_23 : decode cX3_init 23 = .ok (.newarray .int, 2) := by decide +kernel
theorem dX3_init_25 : decode cX3_init 25 = .ok (.putfield 16, 3) := by decide +kernel
theorem dX3_init_28 : decode cX3_init 28 = .ok (.return_, 1) := by decide +kernel
theorem dX3_add_0 : decode cX3_add 0 = .ok (.aload_n 0, 1) := by decide +kernel
theorem dX3_add_1 : decode cX3_add 1 = .ok (.getfield 19, 3) := by decide +kernel
theorem dX3_add_4 : decode cX3_add 4 = .ok (.bipush 6, 2) := by decide +kernel
theorem dX3_add_6 : decode cX3_add 6 = .ok (.if_icmp .lt 5, 3) := by decide +kernel
theorem dX3_add_9 : decode cX3_add 9 = .ok (.iconst 0, 1) := by decide +kernel
theorem dX3_add_10 : decode cX3_add 10 = .ok (.ireturn, 1) := by decide +kernel
theorem dX3_add_11 : decode cX3_add 11 = .ok (.aload_n 0, 1) := by decide +kernel
theorem dX3_add_12 : decode cX3_add 12 = .ok (.getfield 9, 3) := by decide +kernel
theorem dX3_add_15 : decode cX3_add 15 = .ok (.aload_n 0, 1) := by decide +kernel
theorem dX3_add_16 : decode cX3_add 16 = .ok (.getfield 19, 3) := by decide +kernel
theorem dX3_add_19 : decode cX3_add 19 = .ok (.iload_n 1, 1) := by decide +kernel
theorem dX3_add_20 : decode cX3_add 20 = .ok (.iastore, 1) := by decide +kernel
theorem dX3_add_21 : decode cX3_add 21 = .ok (.aload_n 0, 1) := by decide +kernel
theorem dX3_add_22 : decode cX3_add 22 = .ok (.getfield 13, 3) := by decide +kernel
theorem dX3_add_25 : decode cX3_add 25 = .ok (.aload_n 0, 1) := by decide +kernel
theorem dX3_add_26 : decode cX3_add 26 = .ok (.getfield 19, 3) := by decide +kernel
theorem dX3_add_29 : decode cX3_add 29 = .ok (.iload_n 2, 1) := by decide +kernel
theorem dX3_add_30 : decode cX3_add 30 = .ok (.iastore, 1) := by decide +kernel
theorem dX3_add_31 : decode cX3_add 31 = .ok (.aload_n 0, 1) := by decide +kernel
theorem dX3_add_32 : decode cX3_add 32 = .ok (.getfield 16, 3) := by decide +kernel
theorem dX3_add_35 : decode cX3_add 35 = .ok (.aload_n 0, 1) := by decide +kernel
theorem dX3_add_36 : decode cX3_add 36 = .ok (.getfield 19, 3) := by decide +kernel
theorem dX3_add_39 : decode cX3_add 39 = .ok (.iload_n 3, 1) := by decide +kernel
theorem dX3_add_40 : decode cX3_add 40 = .ok (.iastore, 1) := by decide +kernel
theorem dX3_add_41 : decode cX3_add 41 = .ok (.aload_n 0, 1) := by decide +kernel
theorem dX3_add_42 : decode cX3_add 42 = .ok (.dup, 1) := by decide +kernel
theorem dX3_add_43 : decode cX3_add 43 = .ok (.getfield 19, 3) := by decide +kernel
theorem dX3_add_46 : decode cX3_add 46 = .ok (.iconst 1, 1) := by decide +kernel
theorem dX3_add_47 : decode cX3_add 47 = .ok (.iadd, 1) := by decide +kernel
theorem dX3_add_48 : decode cX3_add 48 = .ok (.putfield 19, 3) := by decide +kernel
theorem dX3_add_51 : decode cX3_add 51 = .ok (.iconst 1, 1) := by decide +kernel
theorem dX3_add_52 : decode cX3_add 52 = .ok (.ireturn, 1) := by decide +kernel
theorem dX3_fit_0 : decode cX3_fit 0 = .ok (.aload_n 0, 1) := by decide +kernel
theorem dX3_fit_1 : decode cX3_fit 1 = .ok (.invokevirtual 23, 3) := by decide +kernel
theorem dX3_fit_4 : decode cX3_fit 4 = .ok (.istore_n 2, 1) := by decide +kernel
theorem dX3_fit_5 : decode cX3_fit 5 = .ok (.iconst 0, 1) := by decide +kernel
theorem dX3_fit_6 : decode cX3_fit 6 = .ok (.istore_n 3, 1) := by decide +kernel
theorem dX3_fit_7 : decode cX3_fit 7 = .ok (.iload_n 3, 1) := by decide +kernel
theorem dX3_fit_8 : decode cX3_fit 8 = .ok (.iload_n 2, 1) := by decide +kernel
theorem dX3_fit_9 : decode cX3_fit 9 = .ok (.if_icmp .gt 28, 3) := by decide +kernel
theorem dX3_fit_12 : decode cX3_fit 12 = .ok (.aload_n 0, 1) := by decide +kernel
theorem dX3_fit_13 : decode cX3_fit 13 = .ok (.iload_n 3, 1) := by decide +kernel
theorem dX3_fit_14 : decode cX3_fit 14 = .ok (.aload_n 1, 1) := by decide +kernel
theorem dX3_fit_15 : decode cX3_fit 15 = .ok (.getfield 27, 3) := by decide +kernel
theorem dX3_fit_18 : decode cX3_fit 18 = .ok (.invokevirtual 33, 3) := by decide +kernel
theorem dX3_fit_21 : decode cX3_fit 21 = .ok (.ifCond .ne 5, 3) := by decide +kernel
theorem dX3_fit_24 : decode cX3_fit 24 = .ok (.iconst 0, 1) := by decide +kernel
theorem dX3_fit_25 : decode cX3_fit 25 = .ok (.ireturn, 1) := by decide +kernel
theorem dX3_fit_26 : decode cX3_fit 26 = .ok (.aload_n 1, 1) := by decide +kernel
theorem dX3_fit_27 : decode cX3_fit 27 = .ok (.iconst 0, 1) := by decide +kernel
theorem dX3_fit_28 : decode cX3_fit 28 = .ok (.invokevirtual 37, 3) := by decide +kernel
theorem dX3_fit_31 : decode cX3_fit 31 = .ok (.iinc 3 1, 3) := by decide +kernel
theorem dX3_fit_34 : decode cX3_fit 34 = .ok (.goto (-27), 3) := by decide +kernel
theorem dX3_fit_37 : decode cX3_fit 37 = .ok (.iconst 1, 1) := by decide +kernel
theorem dX3_fit_38 : decode cX3_fit 38 = .ok (.ireturn, 1) := by decide +kernel
theorem dX3_latestNight_0 : decode cX3_latestNight 0 = .ok (.iconst (-1), 1) := by decide +kernel
theorem dX3_latestNight_1 : decode cX3_latestNight 1 = .ok (.istore_n 1, 1) := by decide +kernel
theorem dX3_latestNight_2 : decode cX3_latestNight 2 = .ok (.iconst 0, 1) := by decide +kernel
theorem dX3_latestNight_3 : decode cX3_latestNight 3 = .ok (.istore_n 2, 1) := by decide +kernel
theorem dX3_latestNight_4 : decode cX3_latestNight 4 = .ok (.iload_n 2, 1) := by decide +kernel
theorem dX3_latestNight_5 : decode cX3_latestNight 5 = .ok (.aload_n 0, 1) := by decide +kernel
theorem dX3_latestNight_6 : decode cX3_latestNight 6 = .ok (.getfield 19, 3) := by decide +kernel
theorem dX3_latestNight_9 : decode cX3_latestNight 9 = .ok (.if_icmp .ge 20, 3) := by decide +kernel
theorem dX3_latestNight_12 : decode cX3_latestNight 12 = .ok (.iload_n 1, 1) := by decide +kernel
theorem dX3_latestNight_13 : decode cX3_latestNight 13 = .ok (.aload_n 0, 1) := by decide +kernel
theorem dX3_latestNight_14 : decode cX3_latestNight 14 = .ok (.getfield 9, 3) := by decide +kernel
theorem dX3_latestNight_17 : decode cX3_latestNight 17 = .ok (.iload_n 2, 1) := by decide +kernel
theorem dX3_latestNight_18 : decode cX3_latestNight 18 = .ok (.iaload, 1) := by decide +kernel
theorem dX3_latestNight_19 : decode cX3_latestNight 19 = .ok (.invokestatic 41, 3) := by decide +kernel
theorem dX3_latestNight_22 : decode cX3_latestNight 22 = .ok (.istore_n 1, 1) := by decide +kernel
theorem dX3_latestNight_23 : decode cX3_latestNight 23 = .ok (.iinc 2 1, 3) := by decide +kernel
theorem dX3_latestNight_26 : decode cX3_latestNight 26 = .ok (.goto (-22), 3) := by decide +kernel
theorem dX3_latestNight_29 : decode cX3_latestNight 29 = .ok (.iload_n 1, 1) := by decide +kernel
theorem dX3_latestNight_30 : decode cX3_latestNight 30 = .ok (.ireturn, 1) := by decide +kernel
theorem dX3_fitBehind_0 : decode cX3_fitBehind 0 = .ok (.iconst 0, 1) := by decide +kernel
theorem dX3_fitBehind_1 : decode cX3_fitBehind 1 = .ok (.istore_n 3, 1) := by decide +kernel
theorem dX3_fitBehind_2 : decode cX3_fitBehind 2 = .ok (.iload_n 3, 1) := by decide +kernel
theorem dX3_fitBehind_3 : decode cX3_fitBehind 3 = .ok (.aload_n 0, 1) := by decide +kernel
theorem dX3_fitBehind_4 : decode cX3_fitBehind 4 = .ok (.getfield 19, 3) := by decide +kernel
theorem dX3_fitBehind_7 : decode cX3_fitBehind 7 = .ok (.if_icmp .ge 41, 3) := by decide +kernel
theorem dX3_fitBehind_10 : decode cX3_fitBehind 10 = .ok (.aload_n 0, 1) := by decide +kernel
theorem dX3_fitBehind_11 : decode cX3_fitBehind 11 = .ok (.getfield 9, 3) := by decide +kernel
theorem dX3_fitBehind_14 : decode cX3_fitBehind 14 = .ok (.iload_n 3, 1) := by decide +kernel
theorem dX3_fitBehind_15 : decode cX3_fitBehind 15 = .ok (.iaload, 1) := by decide +kernel
theorem dX3_fitBehind_16 : decode cX3_fitBehind 16 = .ok (.iload_n 1, 1) := by decide +kernel
theorem dX3_fitBehind_17 : decode cX3_fitBehind 17 = .ok (.if_icmp .ne 25, 3) := by decide +kernel
theorem dX3_fitBehind_20 : decode cX3_fitBehind 20 = .ok (.aload_n 2, 1) := by decide +kernel
theorem dX3_fitBehind_21 : decode cX3_fitBehind 21 = .ok (.getfield 47, 3) := by decide +kernel
theorem dX3_fitBehind_24 : decode cX3_fitBehind 24 = .ok (.aload_n 0, 1) := by decide +kernel
theorem dX3_fitBehind_25 : decode cX3_fitBehind 25 = .ok (.getfield 13, 3) := by decide +kernel
theorem dX3_fitBehind_28 : decode cX3_fitBehind 28 = .ok (.iload_n 3, 1) := by decide +kernel
theorem dX3_fitBehind_29 : decode cX3_fitBehind 29 = .ok (.iaload, 1) := by decide +kernel
theorem dX3_fitBehind_30 : decode cX3_fitBehind 30 = .ok (.iaload, 1) := by decide +kernel
theorem dX3_fitBehind_31 : decode cX3_fitBehind 31 = .ok (.aload_n 0, 1) := by decide +kernel
theorem dX3_fitBehind_32 : decode cX3_fitBehind 32 = .ok (.getfield 16, 3) := by decide +kernel
theorem dX3_fitBehind_35 : decode cX3_fitBehind 35 = .ok (.iload_n 3, 1) := by decide +kernel
theorem dX3_fitBehind_36 : decode cX3_fitBehind 36 = .ok (.iaload, 1) := by decide +kernel
theorem dX3_fitBehind_37 : decode cX3_fitBehind 37 = .ok (.if_icmp .eq 5, 3) := by decide +kernel
theorem dX3_fitBehind_40 : decode cX3_fitBehind 40 = .ok (.iconst 0, 1) := by decide +kernel
theorem dX3_fitBehind_41 : decode cX3_fitBehind 41 = .ok (.ireturn, 1) := by decide +kernel
theorem dX3_fitBehind_42 : decode cX3_fitBehind 42 = .ok (.iinc 3 1, 3) := by decide +kernel
theorem dX3_fitBehind_45 : decode cX3_fitBehind 45 = .ok (.goto (-43), 3) := by decide +kernel
theorem dX3_fitBehind_48 : decode cX3_fitBehind 48 = .ok (.iconst 1, 1) := by decide +kernel
theorem dX3_fitBehind_49 : decode cX3_fitBehind 49 = .ok (.ireturn, 1) := by decide +kernel
theorem dX4_init_0 : decode cX4_init 0 = .ok (.aload_n 0, 1) := by decide +kernel
theorem dX4_init_1 : decode cX4_init 1 = .ok (.invokespecial 1, 3) := by decide +kernel
theorem dX4_init_4 : decode cX4_init 4 = .ok (.aload_n 0, 1) := by decide +kernel
theorem dX4_init_5 : decode cX4_init 5 = .ok (.sipush 160, 3) := by decide +kernel
theorem dX4_init_8 : decode cX4_init 8 = .ok (.newarray .byte, 2) := by decide +kernel
theorem dX4_init_10 : decode cX4_init 10 = .ok (.putfield 9, 3) := by decide +kernel
theorem dX4_init_13 : decode cX4_init 13 = .ok (.return_, 1) := by decide +kernel
theorem dX4_append_0 : decode cX4_append 0 = .ok (.aload_n 0, 1) := by decide +kernel
theorem dX4_append_1 : decode cX4_append 1 = .ok (.getfield 13, 3) := by decide +kernel
theorem dX4_append_4 : decode cX4_append 4 = .ok (.sipush 160, 3) := by decide +kernel
theorem dX4_append_7 : decode cX4_append 7 = .ok (.if_icmp .lt 5, 3) := by decide +kernel
theorem dX4_append_10 : decode cX4_append 10 = .ok (.iconst 0, 1) := by decide +kernel
theorem dX4_append_11 : decode cX4_append 11 = .ok (.ireturn, 1) := by decide +kernel
theorem dX4_append_12 : decode cX4_append 12 = .ok (.aload_n 0, 1) := by decide +kernel
theorem dX4_append_13 : decode cX4_append 13 = .ok (.getfield 9, 3) := by decide +kernel
theorem dX4_append_16 : decode cX4_append 16 = .ok (.aload_n 0, 1) := by decide +kernel
theorem dX4_append_17 : decode cX4_append 17 = .ok (.getfield 13, 3) := by decide +kernel
theorem dX4_append_20 : decode cX4_append 20 = .ok (.iload_n 1, 1) := by decide +kernel
theorem dX4_append_21 : decode cX4_append 21 = .ok (.i2b, 1) := by decide +kernel
theorem dX4_append_22 : decode cX4_append 22 = .ok (.bastore, 1) := by decide +kernel
theorem dX4_append_23 : decode cX4_append 23 = .ok (.aload_n 0, 1) := by decide +kernel
theorem dX4_append_24 : decode cX4_append 24 = .ok (.dup, 1) := by decide +kernel
theorem dX4_append_25 : decode cX4_append 25 = .ok (.getfield 13, 3) := by decide +kernel
theorem dX4_append_28 : decode cX4_append 28 = .ok (.iconst 1, 1) := by decide +kernel
theorem dX4_append_29 : decode cX4_append 29 = .ok (.iadd, 1) := by decide +kernel
theorem dX4_append_30 : decode cX4_append 30 = .ok (.putfield 13, 3) := by decide +kernel
theorem dX4_append_33 : decode cX4_append 33 = .ok (.iconst 1, 1) := by decide +kernel
theorem dX4_append_34 : decode cX4_append 34 = .ok (.ireturn, 1) := by decide +kernel
theorem dX4_isBetween_0 : decode cX4_isBetween 0 = .ok (.iload_n 1, 1) := by decide +kernel
theorem dX4_isBetween_1 : decode cX4_isBetween 1 = .ok (.ifCond .lt 35, 3) := by decide +kernel
theorem dX4_isBetween_4 : decode cX4_isBetween 4 = .ok (.iload_n 1, 1) := by decide +kernel
theorem dX4_isBetween_5 : decode cX4_isBetween 5 = .ok (.aload_n 0, 1) := by decide +kernel
theorem dX4_isBetween_6 : decode cX4_isBetween 6 = .ok (.getfield 13, 3) := by decide +kernel
theorem dX4_isBetween_9 : decode cX4_isBetween 9 = .ok (.if_icmp .ge 27, 3) := by decide +kernel
theorem dX4_isBetween_12 : decode cX4_isBetween 12 = .ok (.aload_n 0, 1) := by decide +kernel
theorem dX4_isBetween_13 : decode cX4_isBetween 13 = .ok (.getfield 9, 3) := by decide +kernel
theorem dX4_isBetween_16 : decode cX4_isBetween 16 = .ok (.iload_n 1, 1) := by decide +kernel
theorem dX4_isBetween_17 : decode cX4_isBetween 17 = .ok (.baload, 1) := by decide +kernel
theorem dX4_isBetween_18 : decode cX4_isBetween 18 = .ok (.iload_n 2, 1) := by decide +kernel
theorem dX4_isBetween_19 : decode cX4_isBetween 19 = .ok (.if_icmp .lt 17, 3) := by decide +kernel
theorem dX4_isBetween_22 : decode cX4_isBetween 22 = .ok (.aload_n 0, 1) := by decide +kernel
theorem dX4_isBetween_23 : decode cX4_isBetween 23 = .ok (.getfield 9, 3) := by decide +kernel
theorem dX4_isBetween_26 : decode cX4_isBetween 26 = .ok (.iload_n 1, 1) := by decide +kernel
theorem dX4_isBetween_27 : decode cX4_isBetween 27 = .ok (.baload, 1) := by decide +kernel
theorem dX4_isBetween_28 : decode cX4_isBetween 28 = .ok (.iload_n 3, 1) := by decide +kernel
theorem dX4_isBetween_29 : decode cX4_isBetween 29 = .ok (.if_icmp .gt 7, 3) := by decide +kernel
theorem dX4_isBetween_32 : decode cX4_isBetween 32 = .ok (.iconst 1, 1) := by decide +kernel
theorem dX4_isBetween_33 : decode cX4_isBetween 33 = .ok (.goto 4, 3) := by decide +kernel
theorem dX4_isBetween_36 : decode cX4_isBetween 36 = .ok (.iconst 0, 1) := by decide +kernel
theorem dX4_isBetween_37 : decode cX4_isBetween 37 = .ok (.ireturn, 1) := by decide +kernel
theorem dX5_init_0 : decode cX5_init 0 = .ok (.aload_n 0, 1) := by decide +kernel
theorem dX5_init_1 : decode cX5_init 1 = .ok (.invokespecial 1, 3) := by decide +kernel
theorem dX5_init_4 : decode cX5_init 4 = .ok (.aload_n 0, 1) := by decide +kernel
theorem dX5_init_5 : decode cX5_init 5 = .ok (.aload_n 1, 1) := by decide +kernel
theorem dX5_init_6 : decode cX5_init 6 = .ok (.putfield 7, 3) := by decide +kernel
theorem dX5_init_9 : decode cX5_init 9 = .ok (.return_, 1) := by decide +kernel
theorem dX5_readLines_0 : decode cX5_readLines 0 = .ok (.aload_n 1, 1) := by decide +kernel
theorem dX5_readLines_1 : decode cX5_readLines 1 = .ok (.invokevirtual 13, 3) := by decide +kernel
theorem dX5_readLines_4 : decode cX5_readLines 4 = .ok (.aload_n 0, 1) := by decide +kernel
theorem dX5_readLines_5 : decode cX5_readLines 5 = .ok (.iconst 0, 1) := by decide +kernel
theorem dX5_readLines_6 : decode cX5_readLines 6 = .ok (.putfield 18, 3) := by decide +kernel
theorem dX5_readLines_9 : decode cX5_readLines 9 = .ok (.aload_n 0, 1) := by decide +kernel
theorem dX5_readLines_10 : decode cX5_readLines 10 = .ok (.iconst 0, 1) := by decide +kernel
theorem dX5_readLines_11 : decode cX5_readLines 11 = .ok (.putfield 22, 3) := by decide +kernel
theorem dX5_readLines_14 : decode cX5_readLines 14 = .ok (.aload_n 0, 1) := by decide +kernel
theorem dX5_readLines_15 : decode cX5_readLines 15 = .ok (.iconst 0, 1) := by decide +kernel
theorem dX5_readLines_16 : decode cX5_readLines 16 = .ok (.putfield 25, 3) := by decide +kernel
theorem dX5_readLines_19 : decode cX5_readLines 19 = .ok (.aload_n 0, 1) := by decide +kernel
theorem dX5_readLines_20 : decode cX5_readLines 20 = .ok (.iconst 0, 1) := by decide +kernel
theorem dX5_readLines_21 : decode cX5_readLines 21 = .ok (.putfield 28, 3) := by decide +kernel
theorem dX5_readLines_24 : decode cX5_readLines 24 = .ok (.iconst 0, 1) := by decide +kernel
theorem dX5_readLines_25 : decode cX5_readLines 25 = .ok (.istore_n 2, 1) := by decide +kernel
theorem dX5_readLines_26 : decode cX5_readLines 26 = .ok (.iconst 0, 1) := by decide +kernel
theorem dX5_readLines_27 : decode cX5_readLines 27 = .ok (.istore_n 3, 1) := by decide +kernel
theorem dX5_readLines_28 : decode cX5_readLines 28 = .ok (.iload_n 3, 1) := by decide +kernel
theorem dX5_readLines_29 : decode cX5_readLines 29 = .ok (.sipush 160, 3) := by decide +kernel
theorem dX5_readLines_32 : decode cX5_readLines 32 = .ok (.if_icmp .gt 37, 3) := by decide +kernel
theorem dX5_readLines_35 : decode cX5_readLines 35 = .ok (.aload_n 0, 1) := by decide +kernel
theorem dX5_readLines_36 : decode cX5_readLines 36 = .ok (.invokevirtual 33, 3) := by decide +kernel
theorem dX5_readLines_39 : decode cX5_readLines 39 = .ok (.ifCond .eq 30, 3) := by decide +kernel
theorem dX5_readLines_42 : decode cX5_readLines 42 = .ok (.aload_n 0, 1) := by decide +kernel
theorem dX5_readLines_43 : decode cX5_readLines 43 = .ok (.getfield 37, 3) := by decide +kernel
theorem dX5_readLines_46 : decode cX5_readLines 46 = .ok (.ifCond .eq 23, 3) := by decide +kernel
theorem dX5_readLines_49 : decode cX5_readLines 49 = .ok (.aload_n 0, 1) := by decide +kernel
theorem dX5_readLines_50 : decode cX5_readLines 50 = .ok (.aload_n 1, 1) := by decide +kernel
theorem dX5_readLines_51 : decode cX5_readLines 51 = .ok (.invokevirtual 40, 3) := by decide +kernel
theorem dX5_readLines_54 : decode cX5_readLines 54 = .ok (.ifCond .ne 6, 3) := by decide +kernel
theorem dX5_readLines_57 : decode cX5_readLines 57 = .ok (.goto 12, 3) := by decide +kernel
theorem dX5_readLines_60 : decode cX5_readLines 60 = .ok (.iinc 2 1, 3) := by decide +kernel
theorem dX5_readLines_63 : decode cX5_readLines 63 = .ok (.iinc 3 1, 3) := by decide +kernel
theorem dX5_readLines_66 : decode cX5_readLines 66 = .ok (.goto (-38), 3) := by decide +kernel
theorem dX5_readLines_69 : decode cX5_readLines 69 = .ok (.iload_n 2, 1) := by decide +kernel
theorem dX5_readLines_70 : decode cX5_readLines 70 = .ok (.ireturn, 1) := by decide +kernel
theorem dX5_readLine_0 : decode cX5_readLine 0 = .ok (.iconst 0, 1) := by decide +kernel
theorem dX5_readLine_1 : decode cX5_readLine 1 = .ok (.istore_n 2, 1) := by decide +kernel
theorem dX5_readLine_2 : decode cX5_readLine 2 = .ok (.iload_n 2, 1) := by decide +kernel
theorem dX5_readLine_3 : decode cX5_readLine 3 = .ok (.iconst 4, 1) := by decide +kernel
theorem dX5_readLine_4 : decode cX5_readLine 4 = .ok (.if_icmp .ge 27, 3) := by decide +kernel
theorem dX5_readLine_7 : decode cX5_readLine 7 = .ok (.aload_n 0, 1) := by decide +kernel
theorem dX5_readLine_8 : decode cX5_readLine 8 = .ok (.iload_n 2, 1) := by decide +kernel
theorem dX5_readLine_9 : decode cX5_readLine 9 = .ok (.invokestatic 44, 3) := by decide +kernel
theorem dX5_readLine_12 : decode cX5_readLine 12 = .ok (.invokevirtual 48, 3) := by decide +kernel
theorem dX5_readLine_15 : decode cX5_readLine 15 = .ok (.ifCond .eq 10, 3) := by decide +kernel
theorem dX5_readLine_18 : decode cX5_readLine 18 = .ok (.aload_n 0, 1) := by decide +kernel
theorem dX5_readLine_19 : decode cX5_readLine 19 = .ok (.aload_n 1, 1) := by decide +kernel
theorem dX5_readLine_20 : decode cX5_readLine 20 = .ok (.iload_n 2, 1) := by decide +kernel
theorem dX5_readLine_21 : decode cX5_readLine 21 = .ok (.invokevirtual 52, 3) := by decide +kernel
theorem dX5_readLine_24 : decode cX5_readLine 24 = .ok (.ireturn, 1) := by decide +kernel
theorem dX5_readLine_25 : decode cX5_readLine 25 = .ok (.iinc 2 1, 3) := by decide +kernel
theorem dX5_readLine_28 : decode cX5_readLine 28 = .ok (.goto (-26), 3) := by decide +kernel
theorem dX5_readLine_31 : decode cX5_readLine 31 = .ok (.aload_n 0, 1) := by decide +kernel
theorem dX5_readLine_32 : decode cX5_readLine 32 = .ok (.ldc 56, 2) := by decide +kernel
theorem dX5_readLine_34 : decode cX5_readLine 34 = .ok (.invokevirtual 48, 3) := by decide +kernel
theorem dX5_readLine_37 : decode cX5_readLine 37 = .ok (.ifCond .eq 9, 3) := by decide +kernel
theorem dX5_readLine_40 : decode cX5_readLine 40 = .ok (.aload_n 0, 1) := by decide +kernel
theorem dX5_readLine_41 : decode cX5_readLine 41 = .ok (.aload_n 1, 1) := by decide +kernel
theorem dX5_readLine_42 : decode cX5_readLine 42 = .ok (.invokevirtual 58, 3) := by decide +kernel
theorem dX5_readLine_45 : decode cX5_readLine 45 = .ok (.ireturn, 1) := by decide +kernel
theorem dX5_readLine_46 : decode cX5_readLine 46 = .ok (.aload_n 0, 1) := by decide +kernel
theorem dX5_readLine_47 : decode cX5_readLine 47 = .ok (.ldc 61, 2) := by decide +kernel
theorem dX5_readLine_49 : decode cX5_readLine 49 = .ok (.invokevirtual 48, 3) := by decide +kernel
theorem dX5_readLine_52 : decode cX5_readLine 52 = .ok (.ifCond .eq 11, 3) := by decide +kernel
theorem dX5_readLine_55 : decode cX5_readLine 55 = .ok (.aload_n 0, 1) := by decide +kernel
theorem dX5_readLine_56 : decode cX5_readLine 56 = .ok (.aload_n 1, 1) := by decide +kernel
theorem dX5_readLine_57 : decode cX5_readLine 57 = .ok (.invokevirtual 63, 3) := by decide +kernel
theorem dX5_readLine_60 : decode cX5_readLine 60 = .ok (.goto 8, 3) := by decide +kernel
theorem dX5_readLine_63 : decode cX5_readLine 63 = .ok (.aload_n 0, 1) := by decide +kernel
theorem dX5_readLine_64 : decode cX5_readLine 64 = .ok (.iconst 2, 1) := by decide +kernel
theorem dX5_readLine_65 : decode cX5_readLine 65 = .ok (.invokevirtual 66, 3) := by decide +kernel
theorem dX5_readLine_68 : decode cX5_readLine 68 = .ok (.ireturn, 1) := by decide +kernel
theorem dX5_readTaker_0 : decode cX5_readTaker 0 = .ok (.aload_n 1, 1) := by decide +kernel
theorem dX5_readTaker_1 : decode cX5_readTaker 1 = .ok (.getfield 70, 3) := by decide +kernel
theorem dX5_readTaker_4 : decode cX5_readTaker 4 = .ok (.iconst 5, 1) := by decide +kernel
theorem dX5_readTaker_5 : decode cX5_readTaker 5 = .ok (.if_icmp .lt 9, 3) := by decide +kernel
theorem dX5_readTaker_8 : decode cX5_readTaker 8 = .ok (.aload_n 0, 1) := by decide +kernel
theorem dX5_readTaker_9 : decode cX5_readTaker 9 = .ok (.iconst 5, 1) := by decide +kernel
theorem dX5_readTaker_10 : decode cX5_readTaker 10 = .ok (.invokevirtual 66, 3) := by decide +kernel
theorem dX5_readTaker_13 : decode cX5_readTaker 13 = .ok (.ireturn, 1) := by decide +kernel
theorem dX5_readTaker_14 : decode cX5_readTaker 14 = .ok (.aload_n 0, 1) := by decide +kernel
theorem dX5_readTaker_15 : decode cX5_readTaker 15 = .ok (.iconst 0, 1) := by decide +kernel
theorem dX5_readTaker_16 : decode cX5_readTaker 16 = .ok (.iconst 5, 1) := by decide +kernel
theorem dX5_readTaker_17 : decode cX5_readTaker 17 = .ok (.invokevirtual 73, 3) := by decide +kernel
theorem dX5_readTaker_20 : decode cX5_readTaker 20 = .ok (.ifCond .ne 5, 3) := by decide +kernel
theorem dX5_readTaker_23 : decode cX5_readTaker 23 = .ok (.iconst 0, 1) := by decide +kernel
theorem dX5_readTaker_24 : decode cX5_readTaker 24 = .ok (.ireturn, 1) := by decide +kernel
theorem dX5_readTaker_25 : decode cX5_readTaker 25 = .ok (.aload_n 0, 1) := by decide +kernel
theorem dX5_readTaker_26 : decode cX5_readTaker 26 = .ok (.invokevirtual 77, 3) := by decide +kernel
theorem dX5_readTaker_29 : decode cX5_readTaker 29 = .ok (.ifCond .eq 19, 3) := by decide +kernel
theorem dX5_readTaker_32 : decode cX5_readTaker 32 = .ok (.aload_n 1, 1) := by decide +kernel
theorem dX5_readTaker_33 : decode cX5_readTaker 33 = .ok (.iload_n 2, 1) := by decide +kernel
theorem dX5_readTaker_34 : decode cX5_readTaker 34 = .ok (.aload_n 0, 1) := by decide +kernel
theorem dX5_readTaker_35 : decode cX5_readTaker 35 = .ok (.getfield 80, 3) := by decide +kernel
theorem dX5_readTaker_38 : decode cX5_readTaker 38 = .ok (.invokevirtual 83, 3) := by decide +kernel
theorem dX5_readTaker_41 : decode cX5_readTaker 41 = .ok (.ifCond .eq 7, 3) := by decide +kernel
theorem dX5_readTaker_44 : decode cX5_readTaker 44 = .ok (.iconst 1, 1) := by decide +kernel
theorem dX5_readTaker_45 : decode cX5_readTaker 45 = .ok (.goto 4, 3) := by decide +kernel
theorem dX5_readTaker_48 : decode cX5_readTaker 48 = .ok (.iconst 0, 1) := by decide +kernel
theorem dX5_readTaker_49 : decode cX5_readTaker 49 = .ok (.ireturn, 1) := by decide +kernel
theorem dX5_readKeeper_0 : decode cX5_readKeeper 0 = .ok (.aload_n 1, 1) := by decide +kernel
theorem dX5_readKeeper_1 : decode cX5_readKeeper 1 = .ok (.getfield 86, 3) := by decide +kernel
theorem dX5_readKeeper_4 : decode cX5_readKeeper 4 = .ok (.iconst 3, 1) := by decide +kernel
theorem dX5_readKeeper_5 : decode cX5_readKeeper 5 = .ok (.if_icmp .lt 9, 3) := by decide +kernel
theorem dX5_readKeeper_8 : decode cX5_readKeeper 8 = .ok (.aload_n 0, 1) := by decide +kernel
theorem dX5_readKeeper_9 : decode cX5_readKeeper 9 = .ok (.iconst 5, 1) := by decide +kernel
theorem dX5_readKeeper_10 : decode cX5_readKeeper 10 = .ok (.invokevirtual 66, 3) := by decide +kernel
theorem dX5_readKeeper_13 : decode cX5_readKeeper 13 = .ok (.ireturn, 1) := by decide +kernel
theorem dX5_readKeeper_14 : decode cX5_readKeeper 14 = .ok (.aload_n 0, 1) := by decide +kernel
theorem dX5_readKeeper_15 : decode cX5_readKeeper 15 = .ok (.iconst 0, 1) := by decide +kernel
theorem dX5_readKeeper_16 : decode cX5_readKeeper 16 = .ok (.iconst 5, 1) := by decide +kernel
theorem dX5_readKeeper_17 : decode cX5_readKeeper 17 = .ok (.invokevirtual 73, 3) := by decide +kernel
theorem dX5_readKeeper_20 : decode cX5_readKeeper 20 = .ok (.ifCond .ne 5, 3) := by decide +kernel
theorem dX5_readKeeper_23 : decode cX5_readKeeper 23 = .ok (.iconst 0, 1) := by decide +kernel
theorem dX5_readKeeper_24 : decode cX5_readKeeper 24 = .ok (.ireturn, 1) := by decide +kernel
theorem dX5_readKeeper_25 : decode cX5_readKeeper 25 = .ok (.aload_n 0, 1) := by decide +kernel
theorem dX5_readKeeper_26 : decode cX5_readKeeper 26 = .ok (.getfield 80, 3) := by decide +kernel
theorem dX5_readKeeper_29 : decode cX5_readKeeper 29 = .ok (.istore_n 2, 1) := by decide +kernel
theorem dX5_readKeeper_30 : decode cX5_readKeeper 30 = .ok (.aload_n 0, 1) := by decide +kernel
theorem dX5_readKeeper_31 : decode cX5_readKeeper 31 = .ok (.iconst 0, 1) := by decide +kernel
theorem dX5_readKeeper_32 : decode cX5_readKeeper 32 = .ok (.iconst 5, 1) := by decide +kernel
theorem dX5_readKeeper_33 : decode cX5_readKeeper 33 = .ok (.invokevirtual 73, 3) := by decide +kernel
theorem dX5_readKeeper_36 : decode cX5_readKeeper 36 = .ok (.ifCond .ne 5, 3) := by decide +kernel
theorem dX5_readKeeper_39 : decode cX5_readKeeper 39 = .ok (.iconst 0, 1) := by decide +kernel
theorem dX5_readKeeper_40 : decode cX5_readKeeper 40 = .ok (.ireturn, 1) := by decide +kernel
theorem dX5_readKeeper_41 : decode cX5_readKeeper 41 = .ok (.aload_n 0, 1) := by decide +kernel
theorem dX5_readKeeper_42 : decode cX5_readKeeper 42 = .ok (.getfield 80, 3) := by decide +kernel
theorem dX5_readKeeper_45 : decode cX5_readKeeper 45 = .ok (.istore_n 3, 1) := by decide +kernel
theorem dX5_readKeeper_46 : decode cX5_readKeeper 46 = .ok (.aload_n 0, 1) := by decide +kernel
theorem dX5_readKeeper_47 : decode cX5_readKeeper 47 = .ok (.iconst 1, 1) := by decide +kernel
theorem dX5_readKeeper_48 : decode cX5_readKeeper 48 = .ok (.bipush 9, 2) := by decide +kernel
theorem dX5_readKeeper_50 : decode cX5_readKeeper 50 = .ok (.invokevirtual 73, 3) := by decide +kernel
theorem dX5_readKeeper_53 : decode cX5_readKeeper 53 = .ok (.ifCond .ne 5, 3) := by decide +kernel
theorem dX5_readKeeper_56 : decode cX5_readKeeper 56 = .ok (.iconst 0, 1) := by decide +kernel
theorem dX5_readKeeper_57 : decode cX5_readKeeper 57 = .ok (.ireturn, 1) := by decide +kernel
theorem dX5_readKeeper_58 : decode cX5_readKeeper 58 = .ok (.aload_n 0, 1) := by decide +kernel
theorem dX5_readKeeper_59 : decode cX5_readKeeper 59 = .ok (.invokevirtual 77, 3) := by decide +kernel
theorem dX5_readKeeper_62 : decode cX5_readKeeper 62 = .ok (.ifCond .eq 20, 3) := by decide +kernel
theorem dX5_readKeeper_65 : decode cX5_readKeeper 65 = .ok (.aload_n 1, 1) := by decide +kernel
theorem dX5_readKeeper_66 : decode cX5_readKeeper 66 = .ok (.iload_n 2, 1) := by decide +kernel
theorem dX5_readKeeper_67 : decode cX5_readKeeper 67 = .ok (.iload_n 3, 1) := by decide +kernel
theorem dX5_readKeeper_68 : decode cX5_readKeeper 68 = .ok (.aload_n 0, 1) := by decide +kernel
theorem dX5_readKeeper_69 : decode cX5_readKeeper 69 = .ok (.getfield 80, 3) := by decide +kernel
theorem dX5_readKeeper_72 : decode cX5_readKeeper 72 = .ok (.invokevirtual 89, 3) := by decide +kernel
theorem dX5_readKeeper_75 : decode cX5_readKeeper 75 = .ok (.ifCond .eq 7, 3) := by decide +kernel
theorem dX5_readKeeper_78 : decode cX5_readKeeper 78 = .ok (.iconst 1, 1) := by decide +kernel
theorem dX5_readKeeper_79 : decode cX5_readKeeper 79 = .ok (.goto 4, 3) := by decide +kernel
theorem dX5_readKeeper_82 : decode cX5_readKeeper 82 = .ok (.iconst 0, 1) := by decide +kernel
theorem dX5_readKeeper_83 : decode cX5_readKeeper 83 = .ok (.ireturn, 1) := by decide +kernel
theorem dX5_readGate_0 : decode cX5_readGate 0 = .ok (.aload_n 0, 1) := by decide +kernel
theorem dX5_readGate_1 : decode cX5_readGate 1 = .ok (.iconst 0, 1) := by decide +kernel
theorem dX5_readGate_2 : decode cX5_readGate 2 = .ok (.iconst 5, 1) := by decide +kernel
theorem dX5_readGate_3 : decode cX5_readGate 3 = .ok (.invokevirtual 73, 3) := by decide +kernel
theorem dX5_readGate_6 : decode cX5_readGate 6 = .ok (.ifCond .ne 5, 3) := by decide +kernel
theorem dX5_readGate_9 : decode cX5_readGate 9 = .ok (.iconst 0, 1) := by decide +kernel
theorem dX5_readGate_10 : decode cX5_readGate 10 = .ok (.ireturn, 1) := by decide +kernel
theorem dX5_readGate_11 : decode cX5_readGate 11 = .ok (.aload_n 0, 1) := by decide +kernel
theorem dX5_readGate_12 : decode cX5_readGate 12 = .ok (.getfield 80, 3) := by decide +kernel
theorem dX5_readGate_15 : decode cX5_readGate 15 = .ok (.istore_n 2, 1) := by decide +kernel
theorem dX5_readGate_16 : decode cX5_readGate 16 = .ok (.aload_n 0, 1) := by decide +kernel
theorem dX5_readGate_17 : decode cX5_readGate 17 = .ok (.getfield 22, 3) := by decide +kernel
theorem dX5_readGate_20 : decode cX5_readGate 20 = .ok (.iload_n 2, 1) := by decide +kernel
theorem dX5_readGate_21 : decode cX5_readGate 21 = .ok (.ishr, 1) := by decide +kernel
theorem dX5_readGate_22 : decode cX5_readGate 22 = .ok (.iconst 1, 1) := by decide +kernel
theorem dX5_readGate_23 : decode cX5_readGate 23 = .ok (.iand, 1) := by decide +kernel
theorem dX5_readGate_24 : decode cX5_readGate 24 = .ok (.iconst 1, 1) := by decide +kernel
theorem dX5_readGate_25 : decode cX5_readGate 25 = .ok (.if_icmp .ne 9, 3) := by decide +kernel
theorem dX5_readGate_28 : decode cX5_readGate 28 = .ok (.aload_n 0, 1) := by decide +kernel
theorem dX5_readGate_29 : decode cX5_readGate 29 = .ok (.iconst 4, 1) := by decide +kernel
theorem dX5_readGate_30 : decode cX5_readGate 30 = .ok (.invokevirtual 66, 3) := by decide +kernel
theorem dX5_readGate_33 : decode cX5_readGate 33 = .ok (.ireturn, 1) := by decide +kernel
theorem dX5_readGate_34 : decode cX5_readGate 34 = .ok (.aload_n 0, 1) := by decide +kernel
theorem dX5_readGate_35 : decode cX5_readGate 35 = .ok (.dup, 1) := by decide +kernel
theorem dX5_readGate_36 : decode cX5_readGate 36 = .ok (.getfield 22, 3) := by decide +kernel
theorem dX5_readGate_39 : decode cX5_readGate 39 = .ok (.iconst 1, 1) := by decide +kernel
theorem dX5_readGate_40 : decode cX5_readGate 40 = .ok (.iload_n 2, 1) := by decide +kernel
theorem dX5_readGate_41 : decode cX5_readGate 41 = .ok (.ishl, 1) := by decide +kernel
theorem dX5_readGate_42 : decode cX5_readGate 42 = .ok (.ior, 1) := by decide +kernel
theorem dX5_readGate_43 : decode cX5_readGate 43 = .ok (.putfield 22, 3) := by decide +kernel
theorem dX5_readGate_46 : decode cX5_readGate 46 = .ok (.aload_n 0, 1) := by decide +kernel
theorem dX5_readGate_47 : decode cX5_readGate 47 = .ok (.iconst 0, 1) := by decide +kernel
theorem dX5_readGate_48 : decode cX5_readGate 48 = .ok (.bipush 60, 2) := by decide +kernel
theorem dX5_readGate_50 : decode cX5_readGate 50 = .ok (.invokevirtual 73, 3) := by decide +kernel
theorem dX5_readGate_53 : decode cX5_readGate 53 = .ok (.ifCond .ne 5, 3) := by decide +kernel
theorem dX5_readGate_56 : decode cX5_readGate 56 = .ok (.iconst 0, 1) := by decide +kernel
theorem dX5_readGate_57 : decode cX5_readGate 57 = .ok (.ireturn, 1) := by decide +kernel
theorem dX5_readGate_58 : decode cX5_readGate 58 = .ok (.aload_n 1, 1) := by decide +kernel
theorem dX5_readGate_59 : decode cX5_readGate 59 = .ok (.getfield 93, 3) := by decide +kernel
theorem dX5_readGate_62 : decode cX5_readGate 62 = .ok (.iload_n 2, 1) := by decide +kernel
theorem dX5_readGate_63 : decode cX5_readGate 63 = .ok (.aload_n 0, 1) := by decide +kernel
theorem dX5_readGate_64 : decode cX5_readGate 64 = .ok (.getfield 80, 3) := by decide +kernel
theorem dX5_readGate_67 : decode cX5_readGate 67 = .ok (.iastore, 1) := by decide +kernel
theorem dX5_readGate_68 : decode cX5_readGate 68 = .ok (.aload_n 0, 1) := by decide +kernel
theorem dX5_readGate_69 : decode cX5_readGate 69 = .ok (.iconst 0, 1) := by decide +kernel
theorem dX5_readGate_70 : decode cX5_readGate 70 = .ok (.bipush 9, 2) := by decide +kernel
theorem dX5_readGate_72 : decode cX5_readGate 72 = .ok (.invokevirtual 73, 3) := by decide +kernel
theorem dX5_readGate_75 : decode cX5_readGate 75 = .ok (.ifCond .ne 5, 3) := by decide +kernel
theorem dX5_readGate_78 : decode cX5_readGate 78 = .ok (.iconst 0, 1) := by decide +kernel
theorem dX5_readGate_79 : decode cX5_readGate 79 = .ok (.ireturn, 1) := by decide +kernel
theorem dX5_readGate_80 : decode cX5_readGate 80 = .ok (.aload_n 1, 1) := by decide +kernel
theorem dX5_readGate_81 : decode cX5_readGate 81 = .ok (.getfield 97, 3) := by decide +kernel
theorem dX5_readGate_84 : decode cX5_readGate 84 = .ok (.iload_n 2, 1) := by decide +kernel
theorem dX5_readGate_85 : decode cX5_readGate 85 = .ok (.aload_n 0, 1) := by decide +kernel
theorem dX5_readGate_86 : decode cX5_readGate 86 = .ok (.getfield 80, 3) := by decide +kernel
theorem dX5_readGate_89 : decode cX5_readGate 89 = .ok (.iastore, 1) := by decide +kernel
theorem dX5_readGate_90 : decode cX5_readGate 90 = .ok (.aload_n 0, 1) := by decide +kernel
theorem dX5_readGate_91 : decode cX5_readGate 91 = .ok (.invokevirtual 77, 3) := by decide +kernel
theorem dX5_readGate_94 : decode cX5_readGate 94 = .ok (.ireturn, 1) := by decide +kernel
theorem dX5_readNumber_0 : decode cX5_readNumber 0 = .ok (.aload_n 0, 1) := by decide +kernel
theorem dX5_readNumber_1 : decode cX5_readNumber 1 = .ok (.invokevirtual 33, 3) := by decide +kernel
theorem dX5_readNumber_4 : decode cX5_readNumber 4 = .ok (.ifCond .ne 5, 3) := by decide +kernel
theorem dX5_readNumber_7 : decode cX5_readNumber 7 = .ok (.iconst 0, 1) := by decide +kernel
theorem dX5_readNumber_8 : decode cX5_readNumber 8 = .ok (.ireturn, 1) := by decide +kernel
theorem dX5_readNumber_9 : decode cX5_readNumber 9 = .ok (.aload_n 0, 1) := by decide +kernel
theorem dX5_readNumber_10 : decode cX5_readNumber 10 = .ok (.getfield 37, 3) := by decide +kernel
theorem dX5_readNumber_13 : decode cX5_readNumber 13 = .ok (.iconst 2, 1) := by decide +kernel
theorem dX5_readNumber_14 : decode cX5_readNumber 14 = .ok (.if_icmp .eq 9, 3) := by decide +kernel
theorem dX5_readNumber_17 : decode cX5_readNumber 17 = .ok (.aload_n 0, 1) := by decide +kernel
theorem dX5_readNumber_18 : decode cX5_readNumber 18 = .ok (.iconst 2, 1) := by decide +kernel
theorem dX5_readNumber_19 : decode cX5_readNumber 19 = .ok (.invokevirtual 66, 3) := by decide +kernel
theorem dX5_readNumber_22 : decode cX5_readNumber 22 = .ok (.ireturn, 1) := by decide +kernel
theorem dX5_readNumber_23 : decode cX5_readNumber 23 = .ok (.aload_n 0, 1) := by decide +kernel
theorem dX5_readNumber_24 : decode cX5_readNumber 24 = .ok (.getfield 80, 3) := by decide +kernel
theorem dX5_readNumber_27 : decode cX5_readNumber 27 = .ok (.iload_n 1, 1) := by decide +kernel
theorem dX5_readNumber_28 : decode cX5_readNumber 28 = .ok (.if_icmp .lt 11, 3) := by decide +kernel
theorem dX5_readNumber_31 : decode cX5_readNumber 31 = .ok (.aload_n 0, 1) := by decide +kernel
theorem dX5_readNumber_32 : decode cX5_readNumber 32 = .ok (.getfield 80, 3) := by decide +kernel
theorem dX5_readNumber_35 : decode cX5_readNumber 35 = .ok (.iload_n 2, 1) := by decide +kernel
theorem dX5_readNumber_36 : decode cX5_readNumber 36 = .ok (.if_icmp .le 11, 3) := by decide +kernel
theorem dX5_readNumber_39 : decode cX5_readNumber 39 = .ok (.aload_n 0, 1) := by decide +kernel
theorem dX5_readNumber_40 : decode cX5_readNumber 40 = .ok (.iconst 3, 1) := by decide +kernel
theorem dX5_readNumber_41 : decode cX5_readNumber 41 = .ok (.invokevirtual 66, 3) := by decide +kernel
theorem dX5_readNumber_44 : decode cX5_readNumber 44 = .ok (.ifCond .eq 7, 3) := by decide +kernel
theorem dX5_readNumber_47 : decode cX5_readNumber 47 = .ok (.iconst 1, 1) := by decide +kernel
theorem dX5_readNumber_48 : decode cX5_readNumber 48 = .ok (.goto 4, 3) := by decide +kernel
theorem dX5_readNumber_51 : decode cX5_readNumber 51 = .ok (.iconst 0, 1) := by decide +kernel
theorem dX5_readNumber_52 : decode cX5_readNumber 52 = .ok (.ireturn, 1) := by decide +kernel
theorem dX5_readSemicolonBehind_0 : decode cX5_readSemicolonBehind 0 = .ok (.aload_n 0, 1) := by decide +kernel
theorem dX5_readSemicolonBehind_1 : decode cX5_readSemicolonBehind 1 = .ok (.invokevirtual 33, 3) := by decide +kernel
theorem dX5_readSemicolonBehind_4 : decode cX5_readSemicolonBehind 4 = .ok (.ifCond .ne 5, 3) := by decide +kernel
theorem dX5_readSemicolonBehind_7 : decode cX5_readSemicolonBehind 7 = .ok (.iconst 0, 1) := by decide +kernel
theorem dX5_readSemicolonBehind_8 : decode cX5_readSemicolonBehind 8 = .ok (.ireturn, 1) := by decide +kernel
theorem dX5_readSemicolonBehind_9 : decode cX5_readSemicolonBehind 9 = .ok (.aload_n 0, 1) := by decide +kernel
theorem dX5_readSemicolonBehind_10 : decode cX5_readSemicolonBehind 10 = .ok (.getfield 37, 3) := by decide +kernel
theorem dX5_readSemicolonBehind_13 : decode cX5_readSemicolonBehind 13 = .ok (.iconst 3, 1) := by decide +kernel
theorem dX5_readSemicolonBehind_14 : decode cX5_readSemicolonBehind 14 = .ok (.if_icmp .eq 11, 3) := by decide +kernel
theorem dX5_readSemicolonBehind_17 : decode cX5_readSemicolonBehind 17 = .ok (.aload_n 0, 1) := by decide +kernel
theorem dX5_readSemicolonBehind_18 : decode cX5_readSemicolonBehind 18 = .ok (.iconst 2, 1) := by decide +kernel
theorem dX5_readSemicolonBehind_19 : decode cX5_readSemicolonBehind 19 = .ok (.invokevirtual 66, 3) := by decide +kernel
theorem dX5_readSemicolonBehind_22 : decode cX5_readSemicolonBehind 22 = .ok (.ifCond .eq 7, 3) := by decide +kernel
theorem dX5_readSemicolonBehind_25 : decode cX5_readSemicolonBehind 25 = .ok (.iconst 1, 1) := by decide +kernel
theorem dX5_readSemicolonBehind_26 : decode cX5_readSemicolonBehind 26 = .ok (.goto 4, 3) := by decide +kernel
theorem dX5_readSemicolonBehind_29 : decode cX5_readSemicolonBehind 29 = .ok (.iconst 0, 1) := by decide +kernel
theorem dX5_readSemicolonBehind_30 : decode cX5_readSemicolonBehind 30 = .ok (.ireturn, 1) := by decide +kernel
theorem dX5_readToken_0 : decode cX5_readToken 0 = .ok (.aload_n 0, 1) := by decide +kernel
theorem dX5_readToken_1 : decode cX5_readToken 1 = .ok (.aload_n 0, 1) := by decide +kernel
theorem dX5_readToken_2 : decode cX5_readToken 2 = .ok (.aload_n 0, 1) := by decide +kernel
theorem dX5_readToken_3 : decode cX5_readToken 3 = .ok (.getfield 18, 3) := by decide +kernel
theorem dX5_readToken_6 : decode cX5_readToken 6 = .ok (.bipush 32, 2) := by decide +kernel
theorem dX5_readToken_8 : decode cX5_readToken 8 = .ok (.bipush 32, 2) := by decide +kernel
theorem dX5_readToken_10 : decode cX5_readToken 10 = .ok (.invokevirtual 100, 3) := by decide +kernel
theorem dX5_readToken_13 : decode cX5_readToken 13 = .ok (.putfield 104, 3) := by decide +kernel
theorem dX5_readToken_16 : decode cX5_readToken 16 = .ok (.aload_n 0, 1) := by decide +kernel
theorem dX5_readToken_17 : decode cX5_readToken 17 = .ok (.getfield 104, 3) := by decide +kernel
theorem dX5_readToken_20 : decode cX5_readToken 20 = .ok (.aload_n 0, 1) := by decide +kernel
theorem dX5_readToken_21 : decode cX5_readToken 21 = .ok (.getfield 7, 3) := by decide +kernel
theorem dX5_readToken_24 : decode cX5_readToken 24 = .ok (.getfield 107, 3) := by decide +kernel
theorem dX5_readToken_27 : decode cX5_readToken 27 = .ok (.if_icmp .lt 29, 3) := by decide +kernel
theorem dX5_readToken_30 : decode cX5_readToken 30 = .ok (.aload_n 0, 1) := by decide +kernel
theorem dX5_readToken_31 : decode cX5_readToken 31 = .ok (.aload_n 0, 1) := by decide +kernel
theorem dX5_readToken_32 : decode cX5_readToken 32 = .ok (.getfield 7, 3) := by decide +kernel
theorem dX5_readToken_35 : decode cX5_readToken 35 = .ok (.getfield 107, 3) := by decide +kernel
theorem dX5_readToken_38 : decode cX5_readToken 38 = .ok (.putfield 104, 3) := by decide +kernel
theorem dX5_readToken_41 : decode cX5_readToken 41 = .ok (.aload_n 0, 1) := by decide +kernel
theorem dX5_readToken_42 : decode cX5_readToken 42 = .ok (.aload_n 0, 1) := by decide +kernel
theorem dX5_readToken_43 : decode cX5_readToken 43 = .ok (.getfield 104, 3) := by decide +kernel
theorem dX5_readToken_46 : decode cX5_readToken 46 = .ok (.putfield 18, 3) := by decide +kernel
theorem dX5_readToken_49 : decode cX5_readToken 49 = .ok (.aload_n 0, 1) := by decide +kernel
theorem dX5_readToken_50 : decode cX5_readToken 50 = .ok (.iconst 0, 1) := by decide +kernel
theorem dX5_readToken_51 : decode cX5_readToken 51 = .ok (.putfield 37, 3) := by decide +kernel
theorem dX5_readToken_54 : decode cX5_readToken 54 = .ok (.iconst 1, 1) := by decide +kernel
theorem dX5_readToken_55 : decode cX5_readToken 55 = .ok (.ireturn, 1) := by decide +kernel
theorem dX5_readToken_56 : decode cX5_readToken 56 = .ok (.aload_n 0, 1) := by decide +kernel
theorem dX5_readToken_57 : decode cX5_readToken 57 = .ok (.getfield 7, 3) := by decide +kernel
theorem dX5_readToken_60 : decode cX5_readToken 60 = .ok (.aload_n 0, 1) := by decide +kernel
theorem dX5_readToken_61 : decode cX5_readToken 61 = .ok (.getfield 104, 3) := by decide +kernel
theorem dX5_readToken_64 : decode cX5_readToken 64 = .ok (.bipush 97, 2) := by decide +kernel
theorem dX5_readToken_66 : decode cX5_readToken 66 = .ok (.bipush 122, 2) := by decide +kernel
theorem dX5_readToken_68 : decode cX5_readToken 68 = .ok (.invokevirtual 110, 3) := by decide +kernel
theorem dX5_readToken_71 : decode cX5_readToken 71 = .ok (.ifCond .eq 26, 3) := by decide +kernel
theorem dX5_readToken_74 : decode cX5_readToken 74 = .ok (.aload_n 0, 1) := by decide +kernel
theorem dX5_readToken_75 : decode cX5_readToken 75 = .ok (.aload_n 0, 1) := by decide +kernel
theorem dX5_readToken_76 : decode cX5_readToken 76 = .ok (.aload_n 0, 1) := by decide +kernel
theorem dX5_readToken_77 : decode cX5_readToken 77 = .ok (.getfield 104, 3) := by decide +kernel
theorem dX5_readToken_80 : decode cX5_readToken 80 = .ok (.bipush 97, 2) := by decide +kernel
theorem dX5_readToken_82 : decode cX5_readToken 82 = .ok (.bipush 122, 2) := by decide +kernel
theorem dX5_readToken_84 : decode cX5_readToken 84 = .ok (.invokevirtual 100, 3) := by decide +kernel
theorem dX5_readToken_87 : decode cX5_readToken 87 = .ok (.putfield 18, 3) := by decide +kernel
theorem dX5_readToken_90 : decode cX5_readToken 90 = .ok (.aload_n 0, 1) := by decide +kernel
theorem dX5_readToken_91 : decode cX5_readToken 91 = .ok (.iconst 1, 1) := by decide +kernel
theorem dX5_readToken_92 : decode cX5_readToken 92 = .ok (.putfield 37, 3) := by decide +kernel
theorem dX5_readToken_95 : decode cX5_readToken 95 = .ok (.iconst 1, 1) := by decide +kernel
theorem dX5_readToken_96 : decode cX5_readToken 96 = .ok (.ireturn, 1) := by decide +kernel
theorem dX5_readToken_97 : decode cX5_readToken 97 = .ok (.aload_n 0, 1) := by decide +kernel
theorem dX5_readToken_98 : decode cX5_readToken 98 = .ok (.getfield 7, 3) := by decide +kernel
theorem dX5_readToken_101 : decode cX5_readToken 101 = .ok (.aload_n 0, 1) := by decide +kernel
theorem dX5_readToken_102 : decode cX5_readToken 102 = .ok (.getfield 104, 3) := by decide +kernel
theorem dX5_readToken_105 : decode cX5_readToken 105 = .ok (.bipush 48, 2) := by decide +kernel
theorem dX5_readToken_107 : decode cX5_readToken 107 = .ok (.bipush 57, 2) := by decide +kernel
theorem dX5_readToken_109 : decode cX5_readToken 109 = .ok (.invokevirtual 110, 3) := by decide +kernel
theorem dX5_readToken_112 : decode cX5_readToken 112 = .ok (.ifCond .eq 45, 3) := by decide +kernel
theorem dX5_readToken_115 : decode cX5_readToken 115 = .ok (.aload_n 0, 1) := by decide +kernel
theorem dX5_readToken_116 : decode cX5_readToken 116 = .ok (.aload_n 0, 1) := by decide +kernel
theorem dX5_readToken_117 : decode cX5_readToken 117 = .ok (.aload_n 0, 1) := by decide +kernel
theorem dX5_readToken_118 : decode cX5_readToken 118 = .ok (.getfield 104, 3) := by decide +kernel
theorem dX5_readToken_121 : decode cX5_readToken 121 = .ok (.bipush 48, 2) := by decide +kernel
theorem dX5_readToken_123 : decode cX5_readToken 123 = .ok (.bipush 57, 2) := by decide +kernel
theorem dX5_readToken_125 : decode cX5_readToken 125 = .ok (.invokevirtual 100, 3) := by decide +kernel
theorem dX5_readToken_128 : decode cX5_readToken 128 = .ok (.putfield 18, 3) := by decide +kernel
theorem dX5_readToken_131 : decode cX5_readToken 131 = .ok (.aload_n 0, 1) := by decide +kernel
theorem dX5_readToken_132 : decode cX5_readToken 132 = .ok (.iconst 2, 1) := by decide +kernel
theorem dX5_readToken_133 : decode cX5_readToken 133 = .ok (.putfield 37, 3) := by decide +kernel
theorem dX5_readToken_136 : decode cX5_readToken 136 = .ok (.aload_n 0, 1) := by decide +kernel
theorem dX5_readToken_137 : decode cX5_readToken 137 = .ok (.invokevirtual 113, 3) := by decide +kernel
theorem dX5_readToken_140 : decode cX5_readToken 140 = .ok (.ifCond .ne 11, 3) := by decide +kernel
theorem dX5_readToken_143 : decode cX5_readToken 143 = .ok (.aload_n 0, 1) := by decide +kernel
theorem dX5_readToken_144 : decode cX5_readToken 144 = .ok (.iconst 1, 1) := by decide +kernel
theorem dX5_readToken_145 : decode cX5_readToken 145 = .ok (.invokevirtual 66, 3) := by decide +kernel
theorem dX5_readToken_148 : decode cX5_readToken 148 = .ok (.ifCond .eq 7, 3) := by decide +kernel
theorem dX5_readToken_151 : decode cX5_readToken 151 = .ok (.iconst 1, 1) := by decide +kernel
theorem dX5_readToken_152 : decode cX5_readToken 152 = .ok (.goto 4, 3) := by decide +kernel
theorem dX5_readToken_155 : decode cX5_readToken 155 = .ok (.iconst 0, 1) := by decide +kernel
theorem dX5_readToken_156 : decode cX5_readToken 156 = .ok (.ireturn, 1) := by decide +kernel
theorem dX5_readToken_157 : decode cX5_readToken 157 = .ok (.aload_n 0, 1) := by decide +kernel
theorem dX5_readToken_158 : decode cX5_readToken 158 = .ok (.aload_n 0, 1) := by decide +kernel
theorem dX5_readToken_159 : decode cX5_readToken 159 = .ok (.getfield 104, 3) := by decide +kernel
theorem dX5_readToken_162 : decode cX5_readToken 162 = .ok (.iconst 1, 1) := by decide +kernel
theorem dX5_readToken_163 : decode cX5_readToken 163 = .ok (.iadd, 1) := by decide +kernel
theorem dX5_readToken_164 : decode cX5_readToken 164 = .ok (.putfield 18, 3) := by decide +kernel
theorem dX5_readToken_167 : decode cX5_readToken 167 = .ok (.aload_n 0, 1) := by decide +kernel
theorem dX5_readToken_168 : decode cX5_readToken 168 = .ok (.iconst 3, 1) := by decide +kernel
theorem dX5_readToken_169 : decode cX5_readToken 169 = .ok (.putfield 37, 3) := by decide +kernel
theorem dX5_readToken_172 : decode cX5_readToken 172 = .ok (.aload_n 0, 1) := by decide +kernel
theorem dX5_readToken_173 : decode cX5_readToken 173 = .ok (.getfield 7, 3) := by decide +kernel
theorem dX5_readToken_176 : decode cX5_readToken 176 = .ok (.aload_n 0, 1) := by decide +kernel
theorem dX5_readToken_177 : decode cX5_readToken 177 = .ok (.getfield 104, 3) := by decide +kernel
theorem dX5_readToken_180 : decode cX5_readToken 180 = .ok (.bipush 59, 2) := by decide +kernel
theorem dX5_readToken_182 : decode cX5_readToken 182 = .ok (.bipush 59, 2) := by decide +kernel
theorem dX5_readToken_184 : decode cX5_readToken 184 = .ok (.invokevirtual 110, 3) := by decide +kernel
theorem dX5_readToken_187 : decode cX5_readToken 187 = .ok (.ifCond .ne 11, 3) := by decide +kernel
theorem dX5_readToken_190 : decode cX5_readToken 190 = .ok (.aload_n 0, 1) := by decide +kernel
theorem dX5_readToken_191 : decode cX5_readToken 191 = .ok (.iconst 1, 1) := by decide +kernel
theorem dX5_readToken_192 : decode cX5_readToken 192 = .ok (.invokevirtual 66, 3) := by decide +kernel
theorem dX5_readToken_195 : decode cX5_readToken 195 = .ok (.ifCond .eq 7, 3) := by decide +kernel
theorem dX5_readToken_198 : decode cX5_readToken 198 = .ok (.iconst 1, 1) := by decide +kernel
theorem dX5_readToken_199 : decode cX5_readToken 199 = .ok (.goto 4, 3) := by decide +kernel
theorem dX5_readToken_202 : decode cX5_readToken 202 = .ok (.iconst 0, 1) := by decide +kernel
theorem dX5_readToken_203 : decode cX5_readToken 203 = .ok (.ireturn, 1) := by decide +kernel
theorem dX5_placeBehindAll_0 : decode cX5_placeBehindAll 0 = .ok (.iload_n 1, 1) := by decide +kernel
theorem dX5_placeBehindAll_1 : decode cX5_placeBehindAll 1 = .ok (.istore 4, 2) := by decide +kernel
theorem dX5_placeBehindAll_3 : decode cX5_placeBehindAll 3 = .ok (.iload 4, 2) := by decide +kernel
theorem dX5_placeBehindAll_5 : decode cX5_placeBehindAll 5 = .ok (.aload_n 0, 1) := by decide +kernel
theorem dX5_placeBehindAll_6 : decode cX5_placeBehindAll 6 = .ok (.getfield 7, 3) := by decide +kernel
theorem dX5_placeBehindAll_9 : decode cX5_placeBehindAll 9 = .ok (.getfield 107, 3) := by decide +kernel
theorem dX5_placeBehindAll_12 : decode cX5_placeBehindAll 12 = .ok (.if_icmp .ge 37, 3) := by decide +kernel
theorem dX5_placeBehindAll_15 : decode cX5_placeBehindAll 15 = .ok (.aload_n 0, 1) := by decide +kernel
theorem dX5_placeBehindAll_16 : decode cX5_placeBehindAll 16 = .ok (.getfield 7, 3) := by decide +kernel
theorem dX5_placeBehindAll_19 : decode cX5_placeBehindAll 19 = .ok (.getfield 116, 3) := by decide +kernel
theorem dX5_placeBehindAll_22 : decode cX5_placeBehindAll 22 = .ok (.iload 4, 2) := by decide +kernel
theorem dX5_placeBehindAll_24 : decode cX5_placeBehindAll 24 = .ok (.baload, 1) := by decide +kernel
theorem dX5_placeBehindAll_25 : decode cX5_placeBehindAll 25 = .ok (.iload_n 2, 1) := by decide +kernel
theorem dX5_placeBehindAll_26 : decode cX5_placeBehindAll 26 = .ok (.if_icmp .lt 23, 3) := by decide +kernel
theorem dX5_placeBehindAll_29 : decode cX5_placeBehindAll 29 = .ok (.aload_n 0, 1) := by decide +kernel
theorem dX5_placeBehindAll_30 : decode cX5_placeBehindAll 30 = .ok (.getfield 7, 3) := by decide +kernel
theorem dX5_placeBehindAll_33 : decode cX5_placeBehindAll 33 = .ok (.getfield 116, 3) := by decide +kernel
theorem dX5_placeBehindAll_36 : decode cX5_placeBehindAll 36 = .ok (.iload 4, 2) := by decide +kernel
theorem dX5_placeBehindAll_38 : decode cX5_placeBehindAll 38 = .ok (.baload, 1) := by decide +kernel
theorem dX5_placeBehindAll_39 : decode cX5_placeBehindAll 39 = .ok (.iload_n 3, 1) := by decide +kernel
theorem dX5_placeBehindAll_40 : decode cX5_placeBehindAll 40 = .ok (.if_icmp .gt 9, 3) := by decide +kernel
theorem dX5_placeBehindAll_43 : decode cX5_placeBehindAll 43 = .ok (.iinc 4 1, 3) := by decide +kernel
theorem dX5_placeBehindAll_46 : decode cX5_placeBehindAll 46 = .ok (.goto (-43), 3) := by decide +kernel
theorem dX5_placeBehindAll_49 : decode cX5_placeBehindAll 49 = .ok (.iload 4, 2) := by decide +kernel
theorem dX5_placeBehindAll_51 : decode cX5_placeBehindAll 51 = .ok (.ireturn, 1) := by decide +kernel
theorem dX5_takeFigures_0 : decode cX5_takeFigures 0 = .ok (.aload_n 0, 1) := by decide +kernel
theorem dX5_takeFigures_1 : decode cX5_takeFigures 1 = .ok (.getfield 18, 3) := by decide +kernel
theorem dX5_takeFigures_4 : decode cX5_takeFigures 4 = .ok (.aload_n 0, 1) := by decide +kernel
theorem dX5_takeFigures_5 : decode cX5_takeFigures 5 = .ok (.getfield 104, 3) := by decide +kernel
theorem dX5_takeFigures_8 : decode cX5_takeFigures 8 = .ok (.isub, 1) := by decide +kernel
theorem dX5_takeFigures_9 : decode cX5_takeFigures 9 = .ok (.iconst 2, 1) := by decide +kernel
theorem dX5_takeFigures_10 : decode cX5_takeFigures 10 = .ok (.if_icmp .le 5, 3) := by decide +kernel
theorem dX5_takeFigures_13 : decode cX5_takeFigures 13 = .ok (.iconst 0, 1) := by decide +kernel
theorem dX5_takeFigures_14 : decode cX5_takeFigures 14 = .ok (.ireturn, 1) := by decide +kernel
theorem dX5_takeFigures_15 : decode cX5_takeFigures 15 = .ok (.aload_n 0, 1) := by decide +kernel
theorem dX5_takeFigures_16 : decode cX5_takeFigures 16 = .ok (.iconst 0, 1) := by decide +kernel
theorem dX5_takeFigures_17 : decode cX5_takeFigures 17 = .ok (.putfield 80, 3) := by decide +kernel
theorem dX5_takeFigures_20 : decode cX5_takeFigures 20 = .ok (.aload_n 0, 1) := by decide +kernel
theorem dX5_takeFigures_21 : decode cX5_takeFigures 21 = .ok (.getfield 104, 3) := by decide +kernel
theorem dX5_takeFigures_24 : decode cX5_takeFigures 24 = .ok (.istore_n 1, 1) := by decide +kernel
theorem dX5_takeFigures_25 : decode cX5_takeFigures 25 = .ok (.iload_n 1, 1) := by decide +kernel
theorem dX5_takeFigures_26 : decode cX5_takeFigures 26 = .ok (.aload_n 0, 1) := by decide +kernel
theorem dX5_takeFigures_27 : decode cX5_takeFigures 27 = .ok (.getfield 18, 3) := by decide +kernel
theorem dX5_takeFigures_30 : decode cX5_takeFigures 30 = .ok (.if_icmp .ge 44, 3) := by decide +kernel
theorem dX5_takeFigures_33 : decode cX5_takeFigures 33 = .ok (.iload_n 1, 1) := by decide +kernel
theorem dX5_takeFigures_34 : decode cX5_takeFigures 34 = .ok (.aload_n 0, 1) := by decide +kernel
theorem dX5_takeFigures_35 : decode cX5_takeFigures 35 = .ok (.getfield 7, 3) := by decide +kernel
theorem dX5_takeFigures_38 : decode cX5_takeFigures 38 = .ok (.getfield 107, 3) := by decide +kernel
theorem dX5_takeFigures_41 : decode cX5_takeFigures 41 = .ok (.if_icmp .ge 33, 3) := by decide +kernel
theorem dX5_takeFigures_44 : decode cX5_takeFigures 44 = .ok (.aload_n 0, 1) := by decide +kernel
theorem dX5_takeFigures_45 : decode cX5_takeFigures 45 = .ok (.aload_n 0, 1) := by decide +kernel
theorem dX5_takeFigures_46 : decode cX5_takeFigures 46 = .ok (.getfield 80, 3) := by decide +kernel
theorem dX5_takeFigures_49 : decode cX5_takeFigures 49 = .ok (.bipush 10, 2) := by decide +kernel
theorem dX5_takeFigures_51 : decode cX5_takeFigures 51 = .ok (.imul, 1) := by decide +kernel
theorem dX5_takeFigures_52 : decode cX5_takeFigures 52 = .ok (.aload_n 0, 1) := by decide +kernel
theorem dX5_takeFigures_53 : decode cX5_takeFigures 53 = .ok (.getfield 7, 3) := by decide +kernel
theorem dX5_takeFigures_56 : decode cX5_takeFigures 56 = .ok (.getfield 116, 3) := by decide +kernel
theorem dX5_takeFigures_59 : decode cX5_takeFigures 59 = .ok (.iload_n 1, 1) := by decide +kernel
theorem dX5_takeFigures_60 : decode cX5_takeFigures 60 = .ok (.baload, 1) := by decide +kernel
theorem dX5_takeFigures_61 : decode cX5_takeFigures 61 = .ok (.iadd, 1) := by decide +kernel
theorem dX5_takeFigures_62 : decode cX5_takeFigures 62 = .ok (.bipush 48, 2) := by decide +kernel
theorem dX5_takeFigures_64 : decode cX5_takeFigures 64 = .ok (.isub, 1) := by decide +kernel
theorem dX5_takeFigures_65 : decode cX5_takeFigures 65 = .ok (.putfield 80, 3) := by decide +kernel
theorem dX5_takeFigures_68 : decode cX5_takeFigures 68 = .ok (.iinc 1 1, 3) := by decide +kernel
theorem dX5_takeFigures_71 : decode cX5_takeFigures 71 = .ok (.goto (-46), 3) := by decide +kernel
theorem dX5_takeFigures_74 : decode cX5_takeFigures 74 = .ok (.iconst 1, 1) := by decide +kernel
theorem dX5_takeFigures_75 : decode cX5_takeFigures 75 = .ok (.ireturn, 1) := by decide +kernel
theorem dX5_isName_0 : decode cX5_isName 0 = .ok (.aload_n 0, 1) := by decide +kernel
theorem dX5_isName_1 : decode cX5_isName 1 = .ok (.getfield 37, 3) := by decide +kernel
theorem dX5_isName_4 : decode cX5_isName 4 = .ok (.iconst 1, 1) := by decide +kernel
theorem dX5_isName_5 : decode cX5_isName 5 = .ok (.if_icmp .ne 19, 3) := by decide +kernel
theorem dX5_isName_8 : decode cX5_isName 8 = .ok (.aload_n 0, 1) := by decide +kernel
theorem dX5_isName_9 : decode cX5_isName 9 = .ok (.getfield 18, 3) := by decide +kernel
theorem dX5_isName_12 : decode cX5_isName 12 = .ok (.aload_n 0, 1) := by decide +kernel
theorem dX5_isName_13 : decode cX5_isName 13 = .ok (.getfield 104, 3) := by decide +kernel
theorem dX5_isName_16 : decode cX5_isName 16 = .ok (.isub, 1) := by decide +kernel
theorem dX5_isName_17 : decode cX5_isName 17 = .ok (.aload_n 1, 1) := by decide +kernel
theorem dX5_isName_18 : decode cX5_isName 18 = .ok (.invokevirtual 120, 3) := by decide +kernel
theorem dX5_isName_21 : decode cX5_isName 21 = .ok (.if_icmp .eq 5, 3) := by decide +kernel
theorem dX5_isName_24 : decode cX5_isName 24 = .ok (.iconst 0, 1) := by decide +kernel
theorem dX5_isName_25 : decode cX5_isName 25 = .ok (.ireturn, 1) := by decide +kernel
theorem dX5_isName_26 : decode cX5_isName 26 = .ok (.iconst 0, 1) := by decide +kernel
theorem dX5_isName_27 : decode cX5_isName 27 = .ok (.istore_n 2, 1) := by decide +kernel
theorem dX5_isName_28 : decode cX5_isName 28 = .ok (.iload_n 2, 1) := by decide +kernel
theorem dX5_isName_29 : decode cX5_isName 29 = .ok (.aload_n 1, 1) := by decide +kernel
theorem dX5_isName_30 : decode cX5_isName 30 = .ok (.invokevirtual 120, 3) := by decide +kernel
theorem dX5_isName_33 : decode cX5_isName 33 = .ok (.if_icmp .ge 37, 3) := by decide +kernel
theorem dX5_isName_36 : decode cX5_isName 36 = .ok (.aload_n 0, 1) := by decide +kernel
theorem dX5_isName_37 : decode cX5_isName 37 = .ok (.getfield 7, 3) := by decide +kernel
theorem dX5_isName_40 : decode cX5_isName 40 = .ok (.aload_n 0, 1) := by decide +kernel
theorem dX5_isName_41 : decode cX5_isName 41 = .ok (.getfield 104, 3) := by decide +kernel
theorem dX5_isName_44 : decode cX5_isName 44 = .ok (.iload_n 2, 1) := by decide +kernel
theorem dX5_isName_45 : decode cX5_isName 45 = .ok (.iadd, 1) := by decide +kernel
theorem dX5_isName_46 : decode cX5_isName 46 = .ok (.aload_n 1, 1) := by decide +kernel
theorem dX5_isName_47 : decode cX5_isName 47 = .ok (.iload_n 2, 1) := by decide +kernel
theorem dX5_isName_48 : decode cX5_isName 48 = .ok (.invokevirtual 125, 3) := by decide +kernel
theorem dX5_isName_51 : decode cX5_isName 51 = .ok (.aload_n 1, 1) := by decide +kernel
theorem dX5_isName_52 : decode cX5_isName 52 = .ok (.iload_n 2, 1) := by decide +kernel
theorem dX5_isName_53 : decode cX5_isName 53 = .ok (.invokevirtual 125, 3) := by decide +kernel
theorem dX5_isName_56 : decode cX5_isName 56 = .ok (.invokevirtual 110, 3) := by decide +kernel
theorem dX5_isName_59 : decode cX5_isName 59 = .ok (.ifCond .ne 5, 3) := by decide +kernel
theorem dX5_isName_62 : decode cX5_isName 62 = .ok (.iconst 0, 1) := by decide +kernel
theorem dX5_isName_63 : decode cX5_isName 63 = .ok (.ireturn, 1) := by decide +kernel
theorem dX5_isName_64 : decode cX5_isName 64 = .ok (.iinc 2 1, 3) := by decide +kernel
theorem dX5_isName_67 : decode cX5_isName 67 = .ok (.goto (-39), 3) := by decide +kernel
theorem dX5_isName_70 : decode cX5_isName 70 = .ok (.iconst 1, 1) := by decide +kernel
theorem dX5_isName_71 : decode cX5_isName 71 = .ok (.ireturn, 1) := by decide +kernel
theorem dX5_nameOfKind_0 : decode cX5_nameOfKind 0 = .ok (.iload_n 0, 1) := by decide +kernel
theorem dX5_nameOfKind_1 : decode cX5_nameOfKind 1 = .ok (.tableswitch 36 0 2 #[27, 30, 33], 27) := by decide +kernel
theorem dX5_nameOfKind_28 : decode cX5_nameOfKind 28 = .ok (.ldc 129, 2) := by decide +kernel
theorem dX5_nameOfKind_30 : decode cX5_nameOfKind 30 = .ok (.areturn, 1) := by decide +kernel
theorem dX5_nameOfKind_31 : decode cX5_nameOfKind 31 = .ok (.ldc 131, 2) := by decide +kernel
theorem dX5_nameOfKind_33 : decode cX5_nameOfKind 33 = .ok (.areturn, 1) := by decide +kernel
theorem dX5_nameOfKind_34 : decode cX5_nameOfKind 34 = .ok (.ldc 133, 2) := by decide +kernel
theorem dX5_nameOfKind_36 : decode cX5_nameOfKind 36 = .ok (.areturn, 1) := by decide +kernel
theorem dX5_nameOfKind_37 : decode cX5_nameOfKind 37 = .ok (.ldc 135, 2) := by decide +kernel
theorem dX5_nameOfKind_39 : decode cX5_nameOfKind 39 = .ok (.areturn, 1) := by decide +kernel
theorem dX5_refuse_0 : decode cX5_refuse 0 = .ok (.aload_n 0, 1) := by decide +kernel
theorem dX5_refuse_1 : decode cX5_refuse 1 = .ok (.iload_n 1, 1) := by decide +kernel
theorem dX5_refuse_2 : decode cX5_refuse 2 = .ok (.putfield 25, 3) := by decide +kernel
theorem dX5_refuse_5 : decode cX5_refuse 5 = .ok (.aload_n 0, 1) := by decide +kernel
theorem dX5_refuse_6 : decode cX5_refuse 6 = .ok (.aload_n 0, 1) := by decide +kernel
theorem dX5_refuse_7 : decode cX5_refuse 7 = .ok (.getfield 104, 3) := by decide +kernel
theorem dX5_refuse_10 : decode cX5_refuse 10 = .ok (.putfield 28, 3) := by decide +kernel
theorem dX5_refuse_13 : decode cX5_refuse 13 = .ok (.iconst 0, 1) := by decide +kernel
theorem dX5_refuse_14 : decode cX5_refuse 14 = .ok (.ireturn, 1) := by decide +kernel
theorem dX6_init_0 : decode cX6_init 0 = .ok (.aload_n 0, 1) := by decide +kernel
theorem dX6_init_1 : decode cX6_init 1 = .ok (.invokespecial 1, 3) := by decide +kernel
theorem dX6_init_4 : decode cX6_init 4 = .ok (.aload_n 0, 1) := by decide +kernel
theorem dX6_init_5 : decode cX6_init 5 = .ok (.new 7, 3) := by decide +kernel
theorem dX6_init_8 : decode cX6_init 8 = .ok (.dup, 1) := by decide +kernel
theorem dX6_init_9 : decode cX6_init 9 = .ok (.invokespecial 9, 3) := by decide +kernel
theorem dX6_init_12 : decode cX6_init 12 = .ok (.putfield 10, 3) := by decide +kernel
theorem dX6_init_15 : decode cX6_init 15 = .ok (.return_, 1) := by decide +kernel
theorem dX6_begin_0 : decode cX6_begin 0 = .ok (.aload_n 0, 1) := by decide +kernel
theorem dX6_begin_1 : decode cX6_begin 1 = .ok (.getfield 10, 3) := by decide +kernel
theorem dX6_begin_4 : decode cX6_begin 4 = .ok (.aload_n 1, 1) := by decide +kernel
theorem dX6_begin_5 : decode cX6_begin 5 = .ok (.invokevirtual 16, 3) := by decide +kernel
theorem dX6_begin_8 : decode cX6_begin 8 = .ok (.aload_n 0, 1) := by decide +kernel
theorem dX6_begin_9 : decode cX6_begin 9 = .ok (.iconst 0, 1) := by decide +kernel
theorem dX6_begin_10 : decode cX6_begin 10 = .ok (.putfield 20, 3) := by decide +kernel
theorem dX6_begin_13 : decode cX6_begin 13 = .ok (.aload_n 0, 1) := by decide +kernel
theorem dX6_begin_14 : decode cX6_begin 14 = .ok (.iconst 0, 1) := by decide +kernel
theorem dX6_begin_15 : decode cX6_begin 15 = .ok (.putfield 24, 3) := by decide +kernel
theorem dX6_begin_18 : decode cX6_begin 18 = .ok (.aload_n 0, 1) := by decide +kernel
theorem dX6_begin_19 : decode cX6_begin 19 = .ok (.iconst 0, 1) := by decide +kernel
theorem dX6_begin_20 : decode cX6_begin 20 = .ok (.putfield 27, 3) := by decide +kernel
theorem dX6_begin_23 : decode cX6_begin 23 = .ok (.aload_n 0, 1) := by decide +kernel
theorem dX6_begin_24 : decode cX6_begin 24 = .ok (.iconst 0, 1) := by decide +kernel
theorem dX6_begin_25 : decode cX6_begin 25 = .ok (.putfield 30, 3) := by decide +kernel
theorem dX6_begin_28 : decode cX6_begin 28 = .ok (.aload_n 0, 1) := by decide +kernel
theorem dX6_begin_29 : decode cX6_begin 29 = .ok (.iconst 0, 1) := by decide +kernel
theorem dX6_begin_30 : decode cX6_begin 30 = .ok (.putfield 33, 3) := by decide +kernel
theorem dX6_begin_33 : decode cX6_begin 33 = .ok (.return_, 1) := by decide +kernel
theorem dX6_pass_0 : decode cX6_pass 0 = .ok (.iconst 0, 1) := by decide +kernel
theorem dX6_pass_1 : decode cX6_pass 1 = .ok (.istore_n 2, 1) := by decide +kernel
theorem dX6_pass_2 : decode cX6_pass 2 = .ok (.iload_n 2, 1) := by decide +kernel
theorem dX6_pass_3 : decode cX6_pass 3 = .ok (.iload_n 1, 1) := by decide +kernel
theorem dX6_pass_4 : decode cX6_pass 4 = .ok (.if_icmp .ge 14, 3) := by decide +kernel
theorem dX6_pass_7 : decode cX6_pass 7 = .ok (.aload_n 0, 1) := by decide +kernel
theorem dX6_pass_8 : decode cX6_pass 8 = .ok (.iconst 0, 1) := by decide +kernel
theorem dX6_pass_9 : decode cX6_pass 9 = .ok (.invokevirtual 36, 3) := by decide +kernel
theorem dX6_pass_12 : decode cX6_pass 12 = .ok (.iinc 2 1, 3) := by decide +kernel
theorem dX6_pass_15 : decode cX6_pass 15 = .ok (.goto (-13), 3) := by decide +kernel
theorem dX6_pass_18 : decode cX6_pass 18 = .ok (.return_, 1) := by decide +kernel
theorem dX6_passOne_0 : decode cX6_passOne 0 = .ok (.aload_n 0, 1) := by decide +kernel
theorem dX6_passOne_1 : decode cX6_passOne 1 = .ok (.dup, 1) := by decide +kernel
theorem dX6_passOne_2 : decode cX6_passOne 2 = .ok (.getfield 24, 3) := by decide +kernel
theorem dX6_passOne_5 : decode cX6_passOne 5 = .ok (.aload_n 0, 1) := by decide +kernel
theorem dX6_passOne_6 : decode cX6_passOne 6 = .ok (.getfield 10, 3) := by decide +kernel
theorem dX6_passOne_9 : decode cX6_passOne 9 = .ok (.iload_n 1, 1) := by decide +kernel
theorem dX6_passOne_10 : decode cX6_passOne 10 = .ok (.invokevirtual 40, 3) := by decide +kernel
theorem dX6_passOne_13 : decode cX6_passOne 13 = .ok (.iadd, 1) := by decide +kernel
theorem dX6_passOne_14 : decode cX6_passOne 14 = .ok (.putfield 24, 3) := by decide +kernel
theorem dX6_passOne_17 : decode cX6_passOne 17 = .ok (.aload_n 0, 1) := by decide +kernel
theorem dX6_passOne_18 : decode cX6_passOne 18 = .ok (.dup, 1) := by decide +kernel
theorem dX6_passOne_19 : decode cX6_passOne 19 = .ok (.getfield 20, 3) := by decide +kernel
theorem dX6_passOne_22 : decode cX6_passOne 22 = .ok (.iconst 1, 1) := by decide +kernel
theorem dX6_passOne_23 : decode cX6_passOne 23 = .ok (.iadd, 1) := by decide +kernel
theorem dX6_passOne_24 : decode cX6_passOne 24 = .ok (.putfield 20, 3) := by decide +kernel
theorem dX6_passOne_27 : decode cX6_passOne 27 = .ok (.aload_n 0, 1) := by decide +kernel
theorem dX6_passOne_28 : decode cX6_passOne 28 = .ok (.getfield 10, 3) := by decide +kernel
theorem dX6_passOne_31 : decode cX6_passOne 31 = .ok (.getfield 44, 3) := by decide +kernel
theorem dX6_passOne_34 : decode cX6_passOne 34 = .ok (.istore_n 2, 1) := by decide +kernel
theorem dX6_passOne_35 : decode cX6_passOne 35 = .ok (.aload_n 0, 1) := by decide +kernel
theorem dX6_passOne_36 : decode cX6_passOne 36 = .ok (.dup, 1) := by decide +kernel
theorem dX6_passOne_37 : decode cX6_passOne 37 = .ok (.getfield 27, 3) := by decide +kernel
theorem dX6_passOne_40 : decode cX6_passOne 40 = .ok (.iload_n 2, 1) := by decide +kernel
theorem dX6_passOne_41 : decode cX6_passOne 41 = .ok (.invokestatic 47, 3) := by decide +kernel
theorem dX6_passOne_44 : decode cX6_passOne 44 = .ok (.iadd, 1) := by decide +kernel
theorem dX6_passOne_45 : decode cX6_passOne 45 = .ok (.putfield 27, 3) := by decide +kernel
theorem dX6_passOne_48 : decode cX6_passOne 48 = .ok (.aload_n 0, 1) := by decide +kernel
theorem dX6_passOne_49 : decode cX6_passOne 49 = .ok (.dup, 1) := by decide +kernel
theorem dX6_passOne_50 : decode cX6_passOne 50 = .ok (.getfield 30, 3) := by decide +kernel
theorem dX6_passOne_53 : decode cX6_passOne 53 = .ok (.iload_n 2, 1) := by decide +kernel
theorem dX6_passOne_54 : decode cX6_passOne 54 = .ok (.ior, 1) := by decide +kernel
theorem dX6_passOne_55 : decode cX6_passOne 55 = .ok (.putfield 30, 3) := by decide +kernel
theorem dX6_passOne_58 : decode cX6_passOne 58 = .ok (.iload_n 2, 1) := by decide +kernel
theorem dX6_passOne_59 : decode cX6_passOne 59 = .ok (.ifCond .eq 18, 3) := by decide +kernel
theorem dX6_passOne_62 : decode cX6_passOne 62 = .ok (.aload_n 0, 1) := by decide +kernel
theorem dX6_passOne_63 : decode cX6_passOne 63 = .ok (.getfield 33, 3) := by decide +kernel
theorem dX6_passOne_66 : decode cX6_passOne 66 = .ok (.ifCond .ne 11, 3) := by decide +kernel
theorem dX6_passOne_69 : decode cX6_passOne 69 = .ok (.aload_n 0, 1) := by decide +kernel
theorem dX6_passOne_70 : decode cX6_passOne 70 = .ok (.aload_n 0, 1) := by decide +kernel
theorem dX6_passOne_71 : decode cX6_passOne 71 = .ok (.getfield 20, 3) := by decide +kernel
theorem dX6_passOne_74 : decode cX6_passOne 74 = .ok (.putfield 33, 3) := by decide +kernel
theorem dX6_passOne_77 : decode cX6_passOne 77 = .ok (.return_, 1) := by decide +kernel
theorem dX6_wasCaught_0 : decode cX6_wasCaught 0 = .ok (.aload_n 0, 1) := by decide +kernel
theorem dX6_wasCaught_1 : decode cX6_wasCaught 1 = .ok (.getfield 30, 3) := by decide +kernel
theorem dX6_wasCaught_4 : decode cX6_wasCaught 4 = .ok (.iload_n 1, 1) := by decide +kernel
theorem dX6_wasCaught_5 : decode cX6_wasCaught 5 = .ok (.ishr, 1) := by decide +kernel
theorem dX6_wasCaught_6 : decode cX6_wasCaught 6 = .ok (.iconst 1, 1) := by decide +kernel
theorem dX6_wasCaught_7 : decode cX6_wasCaught 7 = .ok (.iand, 1) := by decide +kernel
theorem dX6_wasCaught_8 : decode cX6_wasCaught 8 = .ok (.iconst 1, 1) := by decide +kernel
theorem dX6_wasCaught_9 : decode cX6_wasCaught 9 = .ok (.if_icmp .ne 7, 3) := by decide +kernel
theorem dX6_wasCaught_12 : decode cX6_wasCaught 12 = .ok (.iconst 1, 1) := by decide +kernel
theorem dX6_wasCaught_13 : decode cX6_wasCaught 13 = .ok (.goto 4, 3) := by decide +kernel
theorem dX6_wasCaught_16 : decode cX6_wasCaught 16 = .ok (.iconst 0, 1) := by decide +kernel
theorem dX6_wasCaught_17 : decode cX6_wasCaught 17 = .ok (.ireturn, 1) := by decide +kernel
theorem dJ6_bitCount_0f7a4_0 : decode cJ6_bitCount_0f7a4 0 = .ok (.iload_n 0, 1) := by decide +kernel
theorem dJ6_bitCount_0f7a4_1 : decode cJ6_bitCount_0f7a4 1 = .ok (.iload_n 0, 1) := by decide +kernel
theorem dJ6_bitCount_0f7a4_2 : decode cJ6_bitCount_0f7a4 2 = .ok (.iconst 1, 1) := by decide +kernel
theorem dJ6_bitCount_0f7a4_3 : decode cJ6_bitCount_0f7a4 3 = .ok (.iushr, 1) := by decide +kernel
theorem dJ6_bitCount_0f7a4_4 : decode cJ6_bitCount_0f7a4 4 = .ok (.ldc_w 265, 3) := by decide +kernel
theorem dJ6_bitCount_0f7a4_7 : decode cJ6_bitCount_0f7a4 7 = .ok (.iand, 1) := by decide +kernel
theorem dJ6_bitCount_0f7a4_8 : decode cJ6_bitCount_0f7a4 8 = .ok (.isub, 1) := by decide +kernel
theorem dJ6_bitCount_0f7a4_9 : decode cJ6_bitCount_0f7a4 9 = .ok (.istore_n 0, 1) := by decide +kernel
theorem dJ6_bitCount_0f7a4_10 : decode cJ6_bitCount_0f7a4 10 = .ok (.iload_n 0, 1) := by decide +kernel
theorem dJ6_bitCount_0f7a4_11 : decode cJ6_bitCount_0f7a4 11 = .ok (.ldc_w 266, 3) := by decide +kernel
theorem dJ6_bitCount_0f7a4_14 : decode cJ6_bitCount_0f7a4 14 = .ok (.iand, 1) := by decide +kernel
theorem dJ6_bitCount_0f7a4_15 : decode cJ6_bitCount_0f7a4 15 = .ok (.iload_n 0, 1) := by decide +kernel
theorem dJ6_bitCount_0f7a4_16 : decode cJ6_bitCount_0f7a4 16 = .ok (.iconst 2, 1) := by decide +kernel
theorem dJ6_bitCount_0f7a4_17 : decode cJ6_bitCount_0f7a4 17 = .ok (.iushr, 1) := by decide +kernel
theorem dJ6_bitCount_0f7a4_18 : decode cJ6_bitCount_0f7a4 18 = .ok (.ldc_w 266, 3) := by decide +kernel
theorem dJ6_bitCount_0f7a4_21 : decode cJ6_bitCount_0f7a4 21 = .ok (.iand, 1) := by decide +kernel
theorem dJ6_bitCount_0f7a4_22 : decode cJ6_bitCount_0f7a4 22 = .ok (.iadd, 1) := by decide +kernel
theorem dJ6_bitCount_0f7a4_23 : decode cJ6_bitCount_0f7a4 23 = .ok (.istore_n 0, 1) := by decide +kernel
theorem dJ6_bitCount_0f7a4_24 : decode cJ6_bitCount_0f7a4 24 = .ok (.iload_n 0, 1) := by decide +kernel
theorem dJ6_bitCount_0f7a4_25 : decode cJ6_bitCount_0f7a4 25 = .ok (.iload_n 0, 1) := by decide +kernel
theorem dJ6_bitCount_0f7a4_26 : decode cJ6_bitCount_0f7a4 26 = .ok (.iconst 4, 1) := by decide +kernel
theorem dJ6_bitCount_0f7a4_27 : decode cJ6_bitCount_0f7a4 27 = .ok (.iushr, 1) := by decide +kernel
theorem dJ6_bitCount_0f7a4_28 : decode cJ6_bitCount_0f7a4 28 = .ok (.iadd, 1) := by decide +kernel
theorem dJ6_bitCount_0f7a4_29 : decode cJ6_bitCount_0f7a4 29 = .ok (.ldc_w 267, 3) := by decide +kernel
theorem dJ6_bitCount_0f7a4_32 : decode cJ6_bitCount_0f7a4 32 = .ok (.iand, 1) := by decide +kernel
theorem dJ6_bitCount_0f7a4_33 : decode cJ6_bitCount_0f7a4 33 = .ok (.istore_n 0, 1) := by decide +kernel
theorem dJ6_bitCount_0f7a4_34 : decode cJ6_bitCount_0f7a4 34 = .ok (.iload_n 0, 1) := by decide +kernel
theorem dJ6_bitCount_0f7a4_35 : decode cJ6_bitCount_0f7a4 35 = .ok (.iload_n 0, 1) := by decide +kernel
theorem dJ6_bitCount_0f7a4_36 : decode cJ6_bitCount_0f7a4 36 = .ok (.bipush 8, 2) := by decide +kernel
theorem dJ6_bitCount_0f7a4_38 : decode cJ6_bitCount_0f7a4 38 = .ok (.iushr, 1) := by decide +kernel
theorem dJ6_bitCount_0f7a4_39 : decode cJ6_bitCount_0f7a4 39 = .ok (.iadd, 1) := by decide +kernel
theorem dJ6_bitCount_0f7a4_40 : decode cJ6_bitCount_0f7a4 40 = .ok (.istore_n 0, 1) := by decide +kernel
theorem dJ6_bitCount_0f7a4_41 : decode cJ6_bitCount_0f7a4 41 = .ok (.iload_n 0, 1) := by decide +kernel
theorem dJ6_bitCount_0f7a4_42 : decode cJ6_bitCount_0f7a4 42 = .ok (.iload_n 0, 1) := by decide +kernel
theorem dJ6_bitCount_0f7a4_43 : decode cJ6_bitCount_0f7a4 43 = .ok (.bipush 16, 2) := by decide +kernel
theorem dJ6_bitCount_0f7a4_45 : decode cJ6_bitCount_0f7a4 45 = .ok (.iushr, 1) := by decide +kernel
theorem dJ6_bitCount_0f7a4_46 : decode cJ6_bitCount_0f7a4 46 = .ok (.iadd, 1) := by decide +kernel
theorem dJ6_bitCount_0f7a4_47 : decode cJ6_bitCount_0f7a4 47 = .ok (.istore_n 0, 1) := by decide +kernel
theorem dJ6_bitCount_0f7a4_48 : decode cJ6_bitCount_0f7a4 48 = .ok (.iload_n 0, 1) := by decide +kernel
theorem dJ6_bitCount_0f7a4_49 : decode cJ6_bitCount_0f7a4 49 = .ok (.bipush 63, 2) := by decide +kernel
theorem dJ6_bitCount_0f7a4_51 : decode cJ6_bitCount_0f7a4 51 = .ok (.iand, 1) := by decide +kernel
theorem dJ6_bitCount_0f7a4_52 : decode cJ6_bitCount_0f7a4 52 = .ok (.ireturn, 1) := by decide +kernel
theorem dJ9_max_7cf53_0 : decode cJ9_max_7cf53 0 = .ok (.iload_n 0, 1) := by decide +kernel
theorem dJ9_max_7cf53_1 : decode cJ9_max_7cf53 1 = .ok (.iload_n 1, 1) := by decide +kernel
theorem dJ9_max_7cf53_2 : decode cJ9_max_7cf53 2 = .ok (.if_icmp .lt 7, 3) := by decide +kernel
theorem dJ9_max_7cf53_5 : decode cJ9_max_7cf53 5 = .ok (.iload_n 0, 1) := by decide +kernel
theorem dJ9_max_7cf53_6 : decode cJ9_max_7cf53 6 = .ok (.goto 4, 3) := by decide +kernel
theorem dJ9_max_7cf53_9 : decode cJ9_max_7cf53 9 = .ok (.iload_n 1, 1) := by decide +kernel
theorem dJ9_max_7cf53_10 : decode cJ9_max_7cf53 10 = .ok (.ireturn, 1) := by decide +kernel
theorem dJ9_min_7cf53_0 : decode cJ9_min_7cf53 0 = .ok (.iload_n 0, 1) := by decide +kernel
theorem dJ9_min_7cf53_1 : decode cJ9_min_7cf53 1 = .ok (.iload_n 1, 1) := by decide +kernel
theorem dJ9_min_7cf53_2 : decode cJ9_min_7cf53 2 = .ok (.if_icmp .gt 7, 3) := by decide +kernel
theorem dJ9_min_7cf53_5 : decode cJ9_min_7cf53 5 = .ok (.iload_n 0, 1) := by decide +kernel
theorem dJ9_min_7cf53_6 : decode cJ9_min_7cf53 6 = .ok (.goto 4, 3) := by decide +kernel
theorem dJ9_min_7cf53_9 : decode cJ9_min_7cf53 9 = .ok (.iload_n 1, 1) := by decide +kernel
theorem dJ9_min_7cf53_10 : decode cJ9_min_7cf53 10 = .ok (.ireturn, 1) := by decide +kernel
theorem dJ0_length_8abf5_0 : decode cJ0_length_8abf5 0 = .ok (.aload_n 0, 1) := by decide +kernel
theorem dJ0_length_8abf5_1 : decode cJ0_length_8abf5 1 = .ok (.getfield 9, 3) := by decide +kernel
theorem dJ0_length_8abf5_4 : decode cJ0_length_8abf5 4 = .ok (.arraylength, 1) := by decide +kernel
theorem dJ0_length_8abf5_5 : decode cJ0_length_8abf5 5 = .ok (.aload_n 0, 1) := by decide +kernel
theorem dJ0_length_8abf5_6 : decode cJ0_length_8abf5 6 = .ok (.invokevirtual 335, 3) := by decide +kernel
theorem dJ0_length_8abf5_9 : decode cJ0_length_8abf5 9 = .ok (.ishr, 1) := by decide +kernel
theorem dJ0_length_8abf5_10 : decode cJ0_length_8abf5 10 = .ok (.ireturn, 1) := by decide +kernel
theorem dJ0_charAt_5068e_0 : decode cJ0_charAt_5068e 0 = .ok (.aload_n 0, 1) := by decide +kernel
theorem dJ0_charAt_5068e_1 : decode cJ0_charAt_5068e 1 = .ok (.invokevirtual 492, 3) := by decide +kernel
theorem dJ0_charAt_5068e_4 : decode cJ0_charAt_5068e 4 = .ok (.ifCond .eq 12, 3) := by decide +kernel
theorem dJ0_charAt_5068e_7 : decode cJ0_charAt_5068e 7 = .ok (.aload_n 0, 1) := by decide +kernel
theorem dJ0_charAt_5068e_8 : decode cJ0_charAt_5068e 8 = .ok (.getfield 9, 3) := by decide +kernel
theorem dJ0_charAt_5068e_11 : decode cJ0_charAt_5068e 11 = .ok (.iload_n 1, 1) := by decide +kernel
theorem dJ0_charAt_5068e_12 : decode cJ0_charAt_5068e 12 = .ok (.invokestatic 495, 3) := by decide +kernel
theorem dJ0_charAt_5068e_15 : decode cJ0_charAt_5068e 15 = .ok (.ireturn, 1) := by decide +kernel
theorem dJ0_charAt_5068e_16 : decode cJ0_charAt_5068e 16 = .ok (.aload_n 0, 1) := by decide +kernel
theorem dJ0_charAt_5068e_17 : decode cJ0_charAt_5068e 17 = .ok (.getfield 9, 3) := by decide +kernel
theorem dJ0_charAt_5068e_20 : decode cJ0_charAt_5068e 20 = .ok (.iload_n 1, 1) := by decide +kernel
theorem dJ0_charAt_5068e_21 : decode cJ0_charAt_5068e 21 = .ok (.invokestatic 498, 3) := by decide +kernel
theorem dJ0_charAt_5068e_24 : decode cJ0_charAt_5068e 24 = .ok (.ireturn, 1) := by decide +kernel
theorem dJ0_coder_7d493_0 : decode cJ0_coder_7d493 0 = .ok (.getstatic 38, 3) := by decide +kernel
theorem dJ0_coder_7d493_3 : decode cJ0_coder_7d493 3 = .ok (.ifCond .eq 10, 3) := by decide +kernel
theorem dJ0_coder_7d493_6 : decode cJ0_coder_7d493 6 = .ok (.aload_n 0, 1) := by decide +kernel
theorem dJ0_coder_7d493_7 : decode cJ0_coder_7d493 7 = .ok (.getfield 15, 3) := by decide +kernel
theorem dJ0_coder_7d493_10 : decode cJ0_coder_7d493 10 = .ok (.goto 4, 3) := by decide +kernel
theorem dJ0_coder_7d493_13 : decode cJ0_coder_7d493 13 = .ok (.iconst 1, 1) := by decide +kernel
theorem dJ0_coder_7d493_14 : decode cJ0_coder_7d493 14 = .ok (.ireturn, 1) := by decide +kernel
theorem dJ0_isLatin1_aae02_0 : decode cJ0_isLatin1_aae02 0 = .ok (.getstatic 38, 3) := by decide +kernel
theorem dJ0_isLatin1_aae02_3 : decode cJ0_isLatin1_aae02 3 = .ok (.ifCond .eq 14, 3) := by decide +kernel
theorem dJ0_isLatin1_aae02_6 : decode cJ0_isLatin1_aae02 6 = .ok (.aload_n 0, 1) := by decide +kernel
theorem dJ0_isLatin1_aae02_7 : decode cJ0_isLatin1_aae02 7 = .ok (.getfield 15, 3) := by decide +kernel
theorem dJ0_isLatin1_aae02_10 : decode cJ0_isLatin1_aae02 10 = .ok (.ifCond .ne 7, 3) := by decide +kernel
theorem dJ0_isLatin1_aae02_13 : decode cJ0_isLatin1_aae02 13 = .ok (.iconst 1, 1) := by decide +kernel
theorem dJ0_isLatin1_aae02_14 : decode cJ0_isLatin1_aae02 14 = .ok (.goto 4, 3) := by decide +kernel
theorem dJ0_isLatin1_aae02_17 : decode cJ0_isLatin1_aae02 17 = .ok (.iconst 0, 1) := by decide +kernel
theorem dJ0_isLatin1_aae02_18 : decode cJ0_isLatin1_aae02 18 = .ok (.ireturn, 1) := by decide +kernel
theorem dJ0_checkIndex_df160_0 : decode cJ0_checkIndex_df160 0 = .ok (.iload_n 0, 1) := by decide +kernel
theorem dJ0_checkIndex_df160_1 : decode cJ0_checkIndex_df160 1 = .ok (.iload_n 1, 1) := by decide +kernel
theorem dJ0_checkIndex_df160_2 : decode cJ0_checkIndex_df160 2 = .ok (.getstatic 1053, 3) := by decide +kernel
theorem dJ0_checkIndex_df160_5 : decode cJ0_checkIndex_df160 5 = .ok (.invokestatic 1059, 3) := by decide +kernel
theorem dJ0_checkIndex_df160_8 : decode cJ0_checkIndex_df160 8 = .ok (.pop, 1) := by decide +kernel
theorem dJ0_checkIndex_df160_9 : decode cJ0_checkIndex_df160 9 = .ok (.return_, 1) := by decide +kernel
theorem dJ1_charAt_3b067_0 : decode cJ1_charAt_3b067 0 = .ok (.iload_n 1, 1) := by decide +kernel
theorem dJ1_charAt_3b067_1 : decode cJ1_charAt_3b067 1 = .ok (.aload_n 0, 1) := by decide +kernel
theorem dJ1_charAt_3b067_2 : decode cJ1_charAt_3b067 2 = .ok (.arraylength, 1) := by decide +kernel
theorem dJ1_charAt_3b067_3 : decode cJ1_charAt_3b067 3 = .ok (.invokestatic 9, 3) := by decide +kernel
theorem dJ1_charAt_3b067_6 : decode cJ1_charAt_3b067 6 = .ok (.aload_n 0, 1) := by decide +kernel
theorem dJ1_charAt_3b067_7 : decode cJ1_charAt_3b067 7 = .ok (.iload_n 1, 1) := by decide +kernel
theorem dJ1_charAt_3b067_8 : decode cJ1_charAt_3b067 8 = .ok (.baload, 1) := by decide +kernel
theorem dJ1_charAt_3b067_9 : decode cJ1_charAt_3b067 9 = .ok (.sipush 255, 3) := by decide +kernel
theorem dJ1_charAt_3b067_12 : decode cJ1_charAt_3b067 12 = .ok (.iand, 1) := by decide +kernel
theorem dJ1_charAt_3b067_13 : decode cJ1_charAt_3b067 13 = .ok (.i2c, 1) := by decide +kernel
theorem dJ1_charAt_3b067_14 : decode cJ1_charAt_3b067 14 = .ok (.ireturn, 1) := by decide +kernel
theorem dJ2_getChar_3b067_0 : decode cJ2_getChar_3b067 0 = .ok (.getstatic 44, 3) := by decide +kernel
theorem dJ2_getChar_3b067_3 : decode cJ2_getChar_3b067 3 = .ok (.ifCond .ne 25, 3) := by decide +kernel
theorem dJ2_getChar_3b067_6 : decode cJ2_getChar_3b067 6 = .ok (.iload_n 1, 1) := by decide +kernel
theorem dJ2_getChar_3b067_7 : decode cJ2_getChar_3b067 7 = .ok (.ifCond .lt 11, 3) := by decide +kernel
theorem dJ2_getChar_3b067_10 : decode cJ2_getChar_3b067 10 = .ok (.iload_n 1, 1) := by decide +kernel
theorem dJ2_getChar_3b067_11 : decode cJ2_getChar_3b067 11 = .ok (.aload_n 0, 1) := by decide +kernel
theorem dJ2_getChar_3b067_12 : decode cJ2_getChar_3b067 12 = .ok (.invokestatic 48, 3) := by decide +kernel
theorem dJ2_getChar_3b067_15 : decode cJ2_getChar_3b067 15 = .ok (.if_icmp .lt 13, 3) := by decide +kernel
theorem dJ2_getChar_3b067_18 : decode cJ2_getChar_3b067 18 = .ok (.new 52, 3) := by decide +kernel
theorem dJ2_getChar_3b067_21 : decode cJ2_getChar_3b067 21 = .ok (.dup, 1) := by decide +kernel
theorem dJ2_getChar_3b067_22 : decode cJ2_getChar_3b067 22 = .ok (.ldc 54, 2) := by decide +kernel
theorem dJ2_getChar_3b067_24 : decode cJ2_getChar_3b067 24 = .ok (.invokespecial 56, 3) := by decide +kernel
theorem dJ2_getChar_3b067_27 : decode cJ2_getChar_3b067 27 = .ok (.athrow, 1) := by decide +kernel
theorem dJ2_getChar_3b067_28 : decode cJ2_getChar_3b067 28 = .ok (.iload_n 1, 1) := by decide +kernel
theorem dJ2_getChar_3b067_29 : decode cJ2_getChar_3b067 29 = .ok (.iconst 1, 1) := by decide +kernel
theorem dJ2_getChar_3b067_30 : decode cJ2_getChar_3b067 30 = .ok (.ishl, 1) := by decide +kernel
theorem dJ2_getChar_3b067_31 : decode cJ2_getChar_3b067 31 = .ok (.istore_n 1, 1) := by decide +kernel
theorem dJ2_getChar_3b067_32 : decode cJ2_getChar_3b067 32 = .ok (.aload_n 0, 1) := by decide +kernel
theorem dJ2_getChar_3b067_33 : decode cJ2_getChar_3b067 33 = .ok (.iload_n 1, 1) := by decide +kernel
theorem dJ2_getChar_3b067_34 : decode cJ2_getChar_3b067 34 = .ok (.iinc 1 1, 3) := by decide +kernel
theorem dJ2_getChar_3b067_37 : decode cJ2_getChar_3b067 37 = .ok (.baload, 1) := by decide +kernel
theorem dJ2_getChar_3b067_38 : decode cJ2_getChar_3b067 38 = .ok (.sipush 255, 3) := by decide +kernel
theorem dJ2_getChar_3b067_41 : decode cJ2_getChar_3b067 41 = .ok (.iand, 1) := by decide +kernel
theorem dJ2_getChar_3b067_42 : decode cJ2_getChar_3b067 42 = .ok (.getstatic 59, 3) := by decide +kernel
theorem dJ2_getChar_3b067_45 : decode cJ2_getChar_3b067 45 = .ok (.ishl, 1) := by decide +kernel
theorem dJ2_getChar_3b067_46 : decode cJ2_getChar_3b067 46 = .ok (.aload_n 0, 1) := by decide +kernel
theorem dJ2_getChar_3b067_47 : decode cJ2_getChar_3b067 47 = .ok (.iload_n 1, 1) := by decide +kernel
theorem dJ2_getChar_3b067_48 : decode cJ2_getChar_3b067 48 = .ok (.baload, 1) := by decide +kernel
theorem dJ2_getChar_3b067_49 : decode cJ2_getChar_3b067 49 = .ok (.sipush 255, 3) := by decide +kernel
theorem dJ2_getChar_3b067_52 : decode cJ2_getChar_3b067 52 = .ok (.iand, 1) := by decide +kernel
theorem dJ2_getChar_3b067_53 : decode cJ2_getChar_3b067 53 = .ok (.getstatic 63, 3) := by decide +kernel
theorem dJ2_getChar_3b067_56 : decode cJ2_getChar_3b067 56 = .ok (.ishl, 1) := by decide +kernel
theorem dJ2_getChar_3b067_57 : decode cJ2_getChar_3b067 57 = .ok (.ior, 1) := by decide +kernel
theorem dJ2_getChar_3b067_58 : decode cJ2_getChar_3b067 58 = .ok (.i2c, 1) := by decide +kernel
theorem dJ2_getChar_3b067_59 : decode cJ2_getChar_3b067 59 = .ok (.ireturn, 1) := by decide +kernel
theorem dJ2_length_9d52b_0 : decode cJ2_length_9d52b 0 = .ok (.aload_n 0, 1) := by decide +kernel
theorem dJ2_length_9d52b_1 : decode cJ2_length_9d52b 1 = .ok (.arraylength, 1) := by decide +kernel
theorem dJ2_length_9d52b_2 : decode cJ2_length_9d52b 2 = .ok (.iconst 1, 1) := by decide +kernel
theorem dJ2_length_9d52b_3 : decode cJ2_length_9d52b 3 = .ok (.ishr, 1) := by decide +kernel
theorem dJ2_length_9d52b_4 : decode cJ2_length_9d52b 4 = .ok (.ireturn, 1) := by decide +kernel
theorem dJ2_charAt_3b067_0 : decode cJ2_charAt_3b067 0 = .ok (.iload_n 1, 1) := by decide +kernel
theorem dJ2_charAt_3b067_1 : decode cJ2_charAt_3b067 1 = .ok (.aload_n 0, 1) := by decide +kernel
theorem dJ2_charAt_3b067_2 : decode cJ2_charAt_3b067 2 = .ok (.invokestatic 67, 3) := by decide +kernel
theorem dJ2_charAt_3b067_5 : decode cJ2_charAt_3b067 5 = .ok (.aload_n 0, 1) := by decide +kernel
theorem dJ2_charAt_3b067_6 : decode cJ2_charAt_3b067 6 = .ok (.iload_n 1, 1) := by decide +kernel
theorem dJ2_charAt_3b067_7 : decode cJ2_charAt_3b067 7 = .ok (.invokestatic 71, 3) := by decide +kernel
theorem dJ2_charAt_3b067_10 : decode cJ2_charAt_3b067 10 = .ok (.ireturn, 1) := by decide +kernel
theorem dJ2_checkIndex_2214a_0 : decode cJ2_checkIndex_2214a 0 = .ok (.iload_n 0, 1) := by decide +kernel
theorem dJ2_checkIndex_2214a_1 : decode cJ2_checkIndex_2214a 1 = .ok (.aload_n 1, 1) := by decide +kernel
theorem dJ2_checkIndex_2214a_2 : decode cJ2_checkIndex_2214a 2 = .ok (.invokestatic 48, 3) := by decide +kernel
theorem dJ2_checkIndex_2214a_5 : decode cJ2_checkIndex_2214a 5 = .ok (.invokestatic 414, 3) := by decide +kernel
theorem dJ2_checkIndex_2214a_8 : decode cJ2_checkIndex_2214a 8 = .ok (.return_, 1) := by decide +kernel
theorem dJ3_checkIndex_8e157_0 : decode cJ3_checkIndex_8e157 0 = .ok (.iload_n 0, 1) := by decide +kernel
theorem dJ3_checkIndex_8e157_1 : decode cJ3_checkIndex_8e157 1 = .ok (.ifCond .lt 8, 3) := by decide +kernel
theorem dJ3_checkIndex_8e157_4 : decode cJ3_checkIndex_8e157 4 = .ok (.iload_n 0, 1) := by decide +kernel
theorem dJ3_checkIndex_8e157_5 : decode cJ3_checkIndex_8e157 5 = .ok (.iload_n 1, 1) := by decide +kernel
theorem dJ3_checkIndex_8e157_6 : decode cJ3_checkIndex_8e157 6 = .ok (.if_icmp .lt 10, 3) := by decide +kernel
theorem dJ3_checkIndex_8e157_9 : decode cJ3_checkIndex_8e157 9 = .ok (.aload_n 2, 1) := by decide +kernel
theorem dJ3_checkIndex_8e157_10 : decode cJ3_checkIndex_8e157 10 = .ok (.iload_n 0, 1) := by decide +kernel
theorem dJ3_checkIndex_8e157_11 : decode cJ3_checkIndex_8e157 11 = .ok (.iload_n 1, 1) := by decide +kernel
theorem dJ3_checkIndex_8e157_12 : decode cJ3_checkIndex_8e157 12 = .ok (.invokestatic 95, 3) := by decide +kernel
theorem dJ3_checkIndex_8e157_15 : decode cJ3_checkIndex_8e157 15 = .ok (.athrow, 1) := by decide +kernel
theorem dJ3_checkIndex_8e157_16 : decode cJ3_checkIndex_8e157 16 = .ok (.iload_n 0, 1) := by decide +kernel
theorem dJ3_checkIndex_8e157_17 : decode cJ3_checkIndex_8e157 17 = .ok (.ireturn, 1) := by decide +kernel
end
section
/-! the words of the tables that stay, wherever a method stands -/
def ALL : List Cond := lw_tbl.filter goodWord
theorem aw {w : Cond} (i : Nat) (h : lw_tbl[i]? = some w) (g : goodWord w = true) : w ∈ ALL := List.mem_filter.mpr ⟨List.mem_of_getElem? h, g⟩
theorem all_good : GoodIn ALL ALL := fun _ h => ⟨h, good_of_word (List.mem_filter.mp h).2⟩
theorem good_cons {w : Cond} {ws : List Cond} (h : w ∈ ALL) (hw : GoodIn ALL ws) : GoodIn ALL (w :: ws) := fun x hx => by
  rcases List.mem_cons.mp hx with rfl | hx
  · exact all_good _ h
  · exact hw x hx
/-! a world's memory: numbers by cell and place -/
abbrev Mem : Type := Nat → Nat → Int32
def mr (M : Mem) (o : Nat) (f : Nat → Int32) : Mem := fun a => if a = o then f else M a
theorem mr_s (M : Mem) (o : Nat) (f : Nat → Int32) : mr M o f o = f := if_pos rfl
theorem mr_n {M : Mem} {o a : Nat} {f : Nat → Int32} (h : a ≠ o) : mr M o f a = M a := if_neg h
/-- one place of one cell -/
def mu (M : Mem) (o k : Nat) (v : Int32) : Mem := mr M o (upd (M o) k v)
/-- what a cell is: an object (its class, its fields: a cell's number or a number of the memory), numbers (kind, length), cells (kind, length, which) -/
abbrev Lay : Type := (Nat × List (Option Nat)) ⊕ ((Nat × Nat) ⊕ (Nat × Nat × (Nat → Nat)))
def fx (ad : Nat → Nat) (z : Int32) (x : Option Nat) : Value := match x with
  | some q => .ref (ad q)
  | none => .int z
def fv (ad : Nat → Nat) (r : Nat → Int32) (fs : List (Option Nat)) (k : Nat) : Value := fx ad (r k) (fs.getD k none)
def fvs (ad : Nat → Nat) (r : Nat → Int32) (fs : List (Option Nat)) : List Value := (List.range fs.length).map (fv ad r fs)
def cellOf (cA : Nat → ClassId) (ad : Nat → Nat) (L : Lay) (r : Nat → Int32) : va_E := match L with
  | .inl (ci, fs) => .inr (ci, fvs ad r fs)
  | .inr (.inl (t, n)) => .inl (cA t, n, .inl r)
  | .inr (.inr (t, n, g)) => .inl (cA t, n, .inr (.inr (.inr (.inr (fun j => some (ad (g j)))))))
def wsOf (cA : Nat → ClassId) (ad : Nat → Nat) (lay : Nat → Lay) (N : Nat) (M : Mem) : va_W := (List.range N).map (fun o => (ad o, cellOf cA ad (lay o) (M o)))
theorem wsOf_get {cA : Nat → ClassId} {ad : Nat → Nat} {lay : Nat → Lay} {N : Nat} {M : Mem} {o : Nat} (h : o < N) : (wsOf cA ad lay N M)[o]? = some (ad o, cellOf cA ad (lay o) (M o)) := by
  unfold wsOf
  rw [List.getElem?_map, List.getElem?_range h]
  rfl
theorem wsOf_set {cA : Nat → ClassId} {ad : Nat → Nat} {lay : Nat → Lay} {N : Nat} {M : Mem} {o : Nat} (f : Nat → Int32) : (wsOf cA ad lay N M).set o (ad o, cellOf cA ad (lay o) f) = wsOf cA ad lay N (mr M o f) := by
  apply List.ext_getElem?
  intro k
  rw [List.getElem?_set]
  by_cases hk : k < N
  · rw [wsOf_get hk, wsOf_get hk]
    by_cases h : o = k
    · subst h
      rw [mr_s]
      have : o < (wsOf cA ad lay N M).length := by unfold wsOf; simpa using hk
      simp [this]
    · rw [mr_n (fun q => h q.symm)]
      simp [h]
  · have h1 : ∀ M' : Mem, (wsOf cA ad lay N M')[k]? = none := fun M' => List.getElem?_eq_none (by unfold wsOf; simpa using hk)
    rw [h1, h1]
    by_cases h : o = k
    · subst h
      have : ¬ o < (wsOf cA ad lay N M).length := by unfold wsOf; simpa using hk
      simp [this]
    · simp [h]
theorem fvs_get {ad : Nat → Nat} {r : Nat → Int32} {fs : List (Option Nat)} {k : Nat} {x : Option Nat} (h : fs[k]? = some x) : (fvs ad r fs)[k]? = some (fx ad (r k) x) := by
  have hk : k < fs.length := (List.getElem?_eq_some_iff.mp h).1
  unfold fvs
  rw [List.getElem?_map, List.getElem?_range hk]
  simp [fv, h]
theorem fvs_len {ad : Nat → Nat} {r : Nat → Int32} {fs : List (Option Nat)} : (fvs ad r fs).length = fs.length := by unfold fvs; simp
theorem fvs_set {ad : Nat → Nat} {r : Nat → Int32} {fs : List (Option Nat)} {k : Nat} {v : Int32} (h : fs[k]? = some none) : (fvs ad r fs).set k (.int v) = fvs ad (upd r k v) fs := by
  apply List.ext_getElem?
  intro j
  have hk : k < fs.length := (List.getElem?_eq_some_iff.mp h).1
  rw [List.getElem?_set, fvs_len]
  by_cases hj : k = j
  · subst hj
    rw [fvs_get (ad := ad) (r := upd r k v) h]
    simp [hk, upd, fx]
  · simp only [hj, if_false]
    cases hf : fs[j]? with
    | none =>
      have hl : fs.length ≤ j := List.getElem?_eq_none_iff.mp hf
      rw [List.getElem?_eq_none (by rw [fvs_len]; exact hl), List.getElem?_eq_none (by rw [fvs_len]; exact hl)]
    | some x =>
      rw [fvs_get hf, fvs_get hf]
      cases x with
      | some q => rfl
      | none => simp [upd, Ne.symm hj, fx]
/-! the fixed things: classes, array classes, addresses, the cells that may change; static arrays; texts -/
abbrev Gt : Type := va_G × (Nat → ClassId) × (Nat → Nat) × (Nat → Prop) × (Nat × Nat) × (Nat → Nat) × (Nat → Nat)
abbrev gD (g : Gt) : va_G := g.1
abbrev gC (g : Gt) : Nat → ClassId := g.2.1
abbrev ga (g : Gt) : Nat → Nat := g.2.2.1
abbrev gF (g : Gt) : Nat → Prop := g.2.2.2.1
abbrev gT (g : Gt) : Nat × Nat := g.2.2.2.2.1
abbrev gK (g : Gt) : Nat → Nat := g.2.2.2.2.2.1
abbrev gV (g : Gt) : Nat → Nat := g.2.2.2.2.2.2
def tysOf (cA : Nat → ClassId) : List (ClassId × FieldType) := [(cA 0, .int), (cA 1, .byte), (cA 2, .boolean), (cA 3, .object "EveningPoach$Estate"), (cA 4, .object "EveningPoach$Sheet"), (cA 5, .array .int)]
def takesT : Nat → Int32 := fun j => match j with | 0 => 6 | 1 => 6 | 2 => 3 | _ => 12
def noiseT : Nat → Int32 := fun j => match j with | 0 => 3 | 1 => 1 | 2 => 5 | _ => 5
def txLen : List Nat := [3, 3, 3, 6, 6, 4]
def txByt : List (List Int32) := [[110, 101, 116], [100, 111, 103], [98, 111, 121], [115, 113, 117, 105, 114, 101], [107, 101, 101, 112, 101, 114], [103, 97, 116, 101]]
def txAt (g : Gt) (U : State) : Prop := vk_R RX5 129 "net" (gK g 0) U ∧ vk_R RX5 131 "dog" (gK g 1) U ∧ vk_R RX5 133 "boy" (gK g 2) U ∧ vk_R RX5 135 "squire" (gK g 3) U ∧ vk_R RX5 56 "keeper" (gK g 4) U ∧ vk_R RX5 61 "gate" (gK g 5) U
def StZ (g : Gt) (U : State) (H : Heap) : Prop := va_Z RX0 "TAKES_BY_KIND" "[I" (.ref (gT g).1) (gF g) U H ∧ va_T .int (gT g).1 4 (fun j => .int (takesT j)) (gF g) U H ∧ va_Z RX0 "NOISE_BY_KIND" "[I" (.ref (gT g).2) (gF g) U H ∧ va_T .int (gT g).2 4 (fun j => .int (noiseT j)) (gF g) U H
  ∧ vk_S 6 txLen txByt (gK g) (gV g) (gF g) U H ∧ va_Z "java/lang/String" "COMPACT_STRINGS" "Z" (.int 1) (gF g) U H ∧ va_Zq "jdk/internal/util/Preconditions" "SIOOBE_FORMATTER" "Ljava/util/function/BiFunction;" (gF g) U H
def Sta (g : Gt) (U : State) (H : Heap) : Prop := StZ g U H ∧ txAt g U
theorem StZ.moved {g : Gt} {u U : State} {H : Heap} (hvm : u.vm.Alike U.vm) (h : StZ g u H) : StZ g U H := by
  obtain ⟨h1, h2, h3, h4, h5, h6, h7⟩ := h
  exact ⟨h1.moved hvm, h2.moved hvm, h3.moved hvm, h4.moved hvm, h5.moved hvm, h6.moved hvm, h7.moved hvm⟩
theorem StZ.kept {g : Gt} {U : State} {H H1 : Heap} (h : StZ g U H) (hq : ∀ a : Nat, a < H.size → ¬ (gF g) a → H1[a]? = H[a]?) : StZ g U H1 := by
  obtain ⟨h1, h2, h3, h4, h5, h6, h7⟩ := h
  exact ⟨h1.kept hq, h2.kept hq, h3.kept hq, h4.kept hq, h5.kept hq, h6.kept hq, h7.kept hq⟩
theorem txAt.warm {g : Gt} {s U : State} (hW : s.WarmedH U.vm) (h : txAt g s) : txAt g U := by
  obtain ⟨h1, h2, h3, h4, h5, h6⟩ := h
  exact ⟨h1.warm hW, h2.warm hW, h3.warm hW, h4.warm hW, h5.warm hW, h6.warm hW⟩
theorem txAt.same {g : Gt} {u U : State} (hv : U.vm = u.vm) (h : txAt g u) : txAt g U := by
  obtain ⟨h1, h2, h3, h4, h5, h6⟩ := h
  exact ⟨h1.same hv, h2.same hv, h3.same hv, h4.same hv, h5.same hv, h6.same hv⟩
/-! a world, a contract -/
def Wd (g : Gt) (lay : Nat → Lay) (N : Nat) (H0 : Heap) (M : Mem) (H : Heap) (locs : List Loc) : Prop := va_P (gD g) vwCl (wsOf (gC g) (ga g) lay N M) H ∧ va_D (gF g) (wsOf (gC g) (ga g) lay N M) ∧ va_S (gF g) H0 H locs
def PreW (g : Gt) (lay : Nat → Lay) (N : Nat) (M : Mem) (U : State) : Prop := va_P (gD g) vwCl (wsOf (gC g) (ga g) lay N M) U.heap ∧ va_D (gF g) (wsOf (gC g) (ga g) lay N M) ∧ va_K (gD g) vwCl (tysOf (gC g)) U ∧ Sta g U U.heap
def PostW (g : Gt) (lay : Nat → Lay) (N : Nat) (M : Mem) (t : State) : Prop := va_P (gD g) vwCl (wsOf (gC g) (ga g) lay N M) t.heap ∧ va_D (gF g) (wsOf (gC g) (ga g) lay N M)
abbrev rmOf (f L : Nat) : Room := { frames := f, cells := 0, slots := 0, locals := L }
/-- what holds in a method's body: the machine, the code, where it stands, the tables -/
def Cx (p : Program) (s : State) (m : MethodId) (args : Array Value) (c : Code) (cc : ByteArray) (nL : Nat) (own : String) (g : Gt) : Prop := CallFix p m c cc nL s args ALL own ∧ va_K (gD g) vwCl (tysOf (gC g)) s ∧ Sta g s s.heap
abbrev wsY (y : MethodName) (cc : ByteArray) (nL : Nat) (rt : Option FieldType) : List Cond := .code y cc nL rt :: ALL
/-- contracts: an int (a boolean) is answered, a long, nothing, a text -/
def MI (l : Launch) (y : MethodName) (cc : ByteArray) (nL : Nat) (rt : Option FieldType) (f L : Nat) (g : Gt) (lay : Nat → Lay) (N : Nat) (av : List Value) (M : Mem) (Q : Int32 → Mem → Prop) : Prop :=
  Met l y (wsY y cc nL rt) (rmOf f L) (va_Pc av (PreW g lay N M)) (va_Qi Q (PostW g lay N) (gF g)) 0 0 (gF g)
def ML (l : Launch) (y : MethodName) (cc : ByteArray) (nL : Nat) (rt : Option FieldType) (f L : Nat) (g : Gt) (lay : Nat → Lay) (N : Nat) (av : List Value) (M : Mem) (Q : Int64 → Mem → Prop) : Prop :=
  Met l y (wsY y cc nL rt) (rmOf f L) (va_Pc av (PreW g lay N M)) (va_Ql Q (PostW g lay N) (gF g)) 0 0 (gF g)
def MV (l : Launch) (y : MethodName) (cc : ByteArray) (nL : Nat) (rt : Option FieldType) (f L : Nat) (g : Gt) (lay : Nat → Lay) (N : Nat) (av : List Value) (M : Mem) (Q : Mem → Prop) : Prop :=
  Met l y (wsY y cc nL rt) (rmOf f L) (va_Pc av (PreW g lay N M)) (va_Qv Q (PostW g lay N) (gF g)) 0 0 (gF g)
def MT (l : Launch) (y : MethodName) (cc : ByteArray) (nL : Nat) (rt : Option FieldType) (f L : Nat) (g : Gt) (lay : Nat → Lay) (N : Nat) (av : List Value) (M : Mem) (Q : Nat → Mem → Prop) : Prop :=
  Met l y (wsY y cc nL rt) (rmOf f L) (va_Pc av (PreW g lay N M)) (va_Qr (fun u : Nat × Mem => Q u.1 u.2) (fun u a t => a = gK g u.1 ∧ PostW g lay N u.2 t) (gF g)) 0 0 (gF g)
theorem PreW.blind {g : Gt} {lay : Nat → Lay} {N : Nat} {M : Mem} {av : List Value} : FrameBlind (va_Pc av (PreW g lay N M)) := by
  intro a U f mk h
  obtain ⟨h0, h1, h2, h3, h4, h5⟩ := h
  exact ⟨h0, h1, h2, va_K.moved (u := U) (U := U.calling f mk a) (Vm.Alike.refl U.vm) h3, h4.moved (u := U) (U := U.calling f mk a) (Vm.Alike.refl U.vm), h5.same (u := U) (U := U.calling f mk a) rfl⟩
section BX
variable {p : Program} {l : Launch} {e : Env} {R : Room} {s : State} {m : MethodId} {args : Array Value} {below : List Frame} {meth : Method} {c : Code} {H : Heap} {locs : List Loc} {cells slots : Nat} {Qs : State → Prop}
variable {cc : ByteArray} {pc nL : Nat} {ls : Array Slot} {rest : List Value} {own : String} {g : Gt} {lay : Nat → Lay} {N : Nat} {M : Mem} {H0 : Heap}
theorem PreW.of {av : List Value} (C : Cx p s m args c cc nL own g) (w : Wd g lay N s.heap M H locs) {U : State} (hU : U.heap = H) (hW : s.WarmedH U.vm) : va_Pc av (PreW g lay N M) av.toArray U :=
  ⟨rfl, by rw [hU]; exact w.1, w.2.1, va_K.moved hW.alike C.2.1, by
    rw [hU]
    exact (C.2.2.1.kept (fun a h1 h2 => w.2.2.2.1 a h1 h2)).moved hW.alike, C.2.2.2.warm hW⟩
/-- a class of the worlds, in the tables -/
def KC (ci : Nat) (Cn : String) (T : u_T) (n : Nat) (ty : Nat → FieldType) : Prop := (∀ w ∈ u_ws Cn T n, w ∈ ALL) ∧ vwCl[ci]? = some (Cn, T, n) ∧ (∀ k, k < n → parseFieldDescriptor (T k).2.2.1 = some (ty k)) ∧ (∀ a, a < n → ∀ b, b < n → a ≠ b → (T a).2.1 ≠ (T b).2.1)
theorem q_geti (C : Cx p s m args c cc nL own g) (w : Wd g lay N H0 M H locs) {o ci index n : Nat} {fs : List (Option Nat)} {Cn : String} {T : u_T} {ty : Nat → FieldType} (K : KC ci Cn T n ty) (ho : o < N) (hl : lay o = .inl (ci, fs)) (k : Nat) (hf : fs[k]? = some none) (hk : k < n) (hlink : Cond.fieldLink own index (T k).1 (T k).2.1 (T k).2.2.1 ∈ ALL) (hdg : decode cc pc = .ok (.getfield index, 3))
    (kk : W p l e R s m args below meth c H locs cells slots Qs (F0 m (pc + 3) ls (.int (M o k) :: rest))) : W p l e R s m args below meth c H locs cells slots Qs (F0 m pc ls (.ref (ga g o) :: rest)) := by
  obtain ⟨⟨hx, hb, hml, hown, hts⟩, hK, -⟩ := C
  have he := wsOf_get (cA := gC g) (ad := ga g) (lay := lay) (M := M) ho
  rw [hl] at he
  exact va_get (D := gD g) (ci := ci) (C := Cn) (T := T) (N := n) hx hb hts K.1 hown hK w.1 o he K.2.1 k hk (hts _ hlink) (fun _ h => h) (fvs_get hf) hdg kk
theorem q_getr (C : Cx p s m args c cc nL own g) (w : Wd g lay N H0 M H locs) {o ci index n : Nat} {fs : List (Option Nat)} {Cn : String} {T : u_T} {ty : Nat → FieldType} (K : KC ci Cn T n ty) (ho : o < N) (hl : lay o = .inl (ci, fs)) (k : Nat) {x : Nat} (hf : fs[k]? = some (some x)) (hk : k < n) (hlink : Cond.fieldLink own index (T k).1 (T k).2.1 (T k).2.2.1 ∈ ALL) (hdg : decode cc pc = .ok (.getfield index, 3))
    (kk : W p l e R s m args below meth c H locs cells slots Qs (F0 m (pc + 3) ls (.ref (ga g x) :: rest))) : W p l e R s m args below meth c H locs cells slots Qs (F0 m pc ls (.ref (ga g o) :: rest)) := by
  obtain ⟨⟨hx, hb, hml, hown, hts⟩, hK, -⟩ := C
  have he := wsOf_get (cA := gC g) (ad := ga g) (lay := lay) (M := M) ho
  rw [hl] at he
  exact va_get (D := gD g) (ci := ci) (C := Cn) (T := T) (N := n) hx hb hts K.1 hown hK w.1 o he K.2.1 k hk (hts _ hlink) (fun _ h => h) (fvs_get hf) hdg kk
theorem q_put (C : Cx p s m args c cc nL own g) (w : Wd g lay N H0 M H locs) {o ci index n : Nat} {fs : List (Option Nat)} {Cn : String} {T : u_T} {ty : Nat → FieldType} (K : KC ci Cn T n ty) (ho : o < N) (hl : lay o = .inl (ci, fs)) (k : Nat) (hf : fs[k]? = some none) (hk : k < n) (hlink : Cond.fieldLink own index (T k).1 (T k).2.1 (T k).2.2.1 ∈ ALL) (hfin : (T k).2.2.2 = false) (hty : parseFieldDescriptor (T k).2.2.1 = some .int) (hdg : decode cc pc = .ok (.putfield index, 3)) {v : Int32}
    (kk : ∀ (M1 : Mem) (H1 : Heap) (locs1 : List Loc), M1 = mu M o k v → Wd g lay N H0 M1 H1 locs1 → W p l e R s m args below meth c H1 locs1 cells slots Qs (F0 m (pc + 3) ls rest)) : W p l e R s m args below meth c H locs cells slots Qs (F0 m pc ls (.int v :: .ref (ga g o) :: rest)) := by
  obtain ⟨⟨hx, hb, hml, hown, hts⟩, hK, -⟩ := C
  have he := wsOf_get (cA := gC g) (ad := ga g) (lay := lay) (M := M) ho
  rw [hl] at he
  refine va_put (D := gD g) (ci := ci) (C := Cn) (T := T) (N := n) hx hb hts K.1 ty K.2.2.1 K.2.2.2 hown hK w.1 w.2.1 w.2.2 o he K.2.1 k hk (hts _ hlink) (fun _ h => h) hfin hty rfl rfl (by rw [fvs_len]; exact (List.getElem?_eq_some_iff.mp hf).1) hdg (fun H1 locs1 hP hD hS => kk _ H1 locs1 rfl ?_)
  have e : (ga g o, (.inr (ci, (fvs (ga g) (M o) fs).set k (.int v)) : va_E)) = (ga g o, cellOf (gC g) (ga g) (lay o) (upd (M o) k v)) := by
    rw [hl, fvs_set hf]
    rfl
  rw [e, wsOf_set] at hP hD
  exact ⟨hP, hD, hS⟩
theorem q_ial (C : Cx p s m args c cc nL own g) (w : Wd g lay N H0 M H locs) {o n : Nat} {i : Int32} (ho : o < N) (hl : lay o = .inr (.inl (0, n))) (hin : vp_in i n) (hdg : decode cc pc = .ok (.iaload, 1))
    (kk : W p l e R s m args below meth c H locs cells slots Qs (F0 m (pc + 1) ls (.int (M o i.toNatClampNeg) :: rest))) : W p l e R s m args below meth c H locs cells slots Qs (F0 m pc ls (.int i :: .ref (ga g o) :: rest)) := by
  have he := wsOf_get (cA := gC g) (ad := ga g) (lay := lay) (M := M) ho
  rw [hl] at he
  exact va_iald C.1.1 C.1.2.1 C.2.1 w.1 o 0 he rfl hin hdg kk
theorem q_bal (C : Cx p s m args c cc nL own g) (w : Wd g lay N H0 M H locs) {o n : Nat} {i : Int32} (ho : o < N) (hl : lay o = .inr (.inl (1, n))) (hin : vp_in i n) (hdg : decode cc pc = .ok (.baload, 1))
    (kk : W p l e R s m args below meth c H locs cells slots Qs (F0 m (pc + 1) ls (.int (M o i.toNatClampNeg) :: rest))) : W p l e R s m args below meth c H locs cells slots Qs (F0 m pc ls (.int i :: .ref (ga g o) :: rest)) := by
  have he := wsOf_get (cA := gC g) (ad := ga g) (lay := lay) (M := M) ho
  rw [hl] at he
  exact va_bald C.1.1 C.1.2.1 C.2.1 w.1 o 1 he rfl hin hdg kk
theorem q_zal (C : Cx p s m args c cc nL own g) (w : Wd g lay N H0 M H locs) {o n : Nat} {i : Int32} (ho : o < N) (hl : lay o = .inr (.inl (2, n))) (hin : vp_in i n) (hdg : decode cc pc = .ok (.baload, 1))
    (kk : W p l e R s m args below meth c H locs cells slots Qs (F0 m (pc + 1) ls (.int (M o i.toNatClampNeg) :: rest))) : W p l e R s m args below meth c H locs cells slots Qs (F0 m pc ls (.int i :: .ref (ga g o) :: rest)) := by
  have he := wsOf_get (cA := gC g) (ad := ga g) (lay := lay) (M := M) ho
  rw [hl] at he
  exact va_zald C.1.1 C.1.2.1 C.2.1 w.1 o 2 he rfl hin hdg kk
theorem q_ias (C : Cx p s m args c cc nL own g) (w : Wd g lay N H0 M H locs) {o n : Nat} {i v : Int32} (ho : o < N) (hl : lay o = .inr (.inl (0, n))) (hin : vp_in i n) (hdg : decode cc pc = .ok (.iastore, 1))
    (kk : ∀ (M1 : Mem) (H1 : Heap) (locs1 : List Loc), M1 = mu M o i.toNatClampNeg v → Wd g lay N H0 M1 H1 locs1 → W p l e R s m args below meth c H1 locs1 cells slots Qs (F0 m (pc + 1) ls rest)) : W p l e R s m args below meth c H locs cells slots Qs (F0 m pc ls (.int v :: .int i :: .ref (ga g o) :: rest)) := by
  have he := wsOf_get (cA := gC g) (ad := ga g) (lay := lay) (M := M) ho
  rw [hl] at he
  refine va_iast C.1.1 C.1.2.1 C.2.1 w.1 w.2.1 w.2.2 o 0 he rfl hin hdg (fun H1 locs1 hP hD hS => kk _ H1 locs1 rfl ?_)
  have e : (ga g o, (.inl (gC g 0, n, .inl (upd (M o) i.toNatClampNeg v)) : va_E)) = (ga g o, cellOf (gC g) (ga g) (lay o) (upd (M o) i.toNatClampNeg v)) := by
    rw [hl]
    rfl
  rw [e, wsOf_set] at hP hD
  exact ⟨hP, hD, hS⟩
theorem q_bas (C : Cx p s m args c cc nL own g) (w : Wd g lay N H0 M H locs) {o n : Nat} {i v : Int32} (ho : o < N) (hl : lay o = .inr (.inl (1, n))) (hin : vp_in i n) (hdg : decode cc pc = .ok (.bastore, 1))
    (kk : ∀ (M1 : Mem) (H1 : Heap) (locs1 : List Loc), M1 = mu M o i.toNatClampNeg (vp_nar .byte v) → Wd g lay N H0 M1 H1 locs1 → W p l e R s m args below meth c H1 locs1 cells slots Qs (F0 m (pc + 1) ls rest)) : W p l e R s m args below meth c H locs cells slots Qs (F0 m pc ls (.int v :: .int i :: .ref (ga g o) :: rest)) := by
  have he := wsOf_get (cA := gC g) (ad := ga g) (lay := lay) (M := M) ho
  rw [hl] at he
  refine va_bast C.1.1 C.1.2.1 C.2.1 w.1 w.2.1 w.2.2 o 1 he rfl hin hdg (fun H1 locs1 hP hD hS => kk _ H1 locs1 rfl ?_)
  have e : (ga g o, (.inl (gC g 1, n, .inl (upd (M o) i.toNatClampNeg (vp_nar .byte v))) : va_E)) = (ga g o, cellOf (gC g) (ga g) (lay o) (upd (M o) i.toNatClampNeg (vp_nar .byte v))) := by
    rw [hl]
    rfl
  rw [e, wsOf_set] at hP hD
  exact ⟨hP, hD, hS⟩
theorem q_zas (C : Cx p s m args c cc nL own g) (w : Wd g lay N H0 M H locs) {o n : Nat} {i v : Int32} (ho : o < N) (hl : lay o = .inr (.inl (2, n))) (hin : vp_in i n) (hdg : decode cc pc = .ok (.bastore, 1))
    (kk : ∀ (M1 : Mem) (H1 : Heap) (locs1 : List Loc), M1 = mu M o i.toNatClampNeg (vp_nar .boolean v) → Wd g lay N H0 M1 H1 locs1 → W p l e R s m args below meth c H1 locs1 cells slots Qs (F0 m (pc + 1) ls rest)) : W p l e R s m args below meth c H locs cells slots Qs (F0 m pc ls (.int v :: .int i :: .ref (ga g o) :: rest)) := by
  have he := wsOf_get (cA := gC g) (ad := ga g) (lay := lay) (M := M) ho
  rw [hl] at he
  refine va_zast C.1.1 C.1.2.1 C.2.1 w.1 w.2.1 w.2.2 o 2 he rfl hin hdg (fun H1 locs1 hP hD hS => kk _ H1 locs1 rfl ?_)
  have e : (ga g o, (.inl (gC g 2, n, .inl (upd (M o) i.toNatClampNeg (vp_nar .boolean v))) : va_E)) = (ga g o, cellOf (gC g) (ga g) (lay o) (upd (M o) i.toNatClampNeg (vp_nar .boolean v))) := by
    rw [hl]
    rfl
  rw [e, wsOf_set] at hP hD
  exact ⟨hP, hD, hS⟩
theorem q_alen (C : Cx p s m args c cc nL own g) (w : Wd g lay N H0 M H locs) {o n t : Nat} (ho : o < N) (hl : lay o = .inr (.inl (t, n))) (ht : t < 3) (hdg : decode cc pc = .ok (.arraylength, 1))
    (kk : W p l e R s m args below meth c H locs cells slots Qs (F0 m (pc + 1) ls (.int (nI n) :: rest))) : W p l e R s m args below meth c H locs cells slots Qs (F0 m pc ls (.ref (ga g o) :: rest)) := by
  have he := wsOf_get (cA := gC g) (ad := ga g) (lay := lay) (M := M) ho
  rw [hl] at he
  rcases (show t = 0 ∨ t = 1 ∨ t = 2 by omega) with rfl | rfl | rfl
  · exact va_alen C.1.1 C.1.2.1 C.2.1 w.1 o 0 he rfl rfl hdg kk
  · exact va_alen C.1.1 C.1.2.1 C.2.1 w.1 o 1 he rfl rfl hdg kk
  · exact va_alen C.1.1 C.1.2.1 C.2.1 w.1 o 2 he rfl rfl hdg kk
theorem q_aal (C : Cx p s m args c cc nL own g) (w : Wd g lay N H0 M H locs) {o n t : Nat} {r : Nat → Nat} {i : Int32} (ho : o < N) (hl : lay o = .inr (.inr (t, n, r))) (ht : t = 3 ∨ t = 4 ∨ t = 5) (hin : vp_in i n) (hdg : decode cc pc = .ok (.aaload, 1))
    (kk : W p l e R s m args below meth c H locs cells slots Qs (F0 m (pc + 1) ls (.ref (ga g (r i.toNatClampNeg)) :: rest))) : W p l e R s m args below meth c H locs cells slots Qs (F0 m pc ls (.int i :: .ref (ga g o) :: rest)) := by
  have he := wsOf_get (cA := gC g) (ad := ga g) (lay := lay) (M := M) ho
  rw [hl] at he
  have hlt : i.toNatClampNeg < n := Nat.not_le.mp fun q => hin (Or.inr q)
  rcases ht with rfl | rfl | rfl
  · exact va_aldq C.1.1 C.1.2.1 C.2.1 w.1 o 3 he rfl hin hdg kk
  · exact va_aldq C.1.1 C.1.2.1 C.2.1 w.1 o 4 he rfl hin hdg kk
  · exact W.aald (v := .ref (ga g (r i.toNatClampNeg))) (ty := .array .int) C.1.1 C.1.2.1 (w.1 o _ he) ((C.2.1.2 5 _ rfl).1 n (fun j => va_rf (some (ga g (r j))))) rfl (fun q => by cases q) (by show ¬ (i < 0 ∨ (arrV _ _ _).slots.size ≤ _); rw [arrV_size]; exact hin) (by show (arrV _ _ _).slots[_]? = _; rw [arrV_read _ _ hlt]; rfl) rfl rfl hdg kk
end BX
end
section
section BY
variable {p : Program} {l : Launch} {e : Env} {R : Room} {s : State} {m : MethodId} {args : Array Value} {below : List Frame} {meth : Method} {c : Code} {H : Heap} {locs : List Loc} {Qs : State → Prop}
variable {cc : ByteArray} {pc nL : Nat} {ls : Array Slot} {rest : List Value} {own : String} {g : Gt} {lay : Nat → Lay} {N : Nat} {M : Mem}
/-! a contract out of a walk of the body -/
abbrev Bdy (l : Launch) (y : MethodName) (cc : ByteArray) (nL : Nat) (rt : Option FieldType) (R : Room) (g : Gt) (lay : Nat → Lay) (N : Nat) (av : List Value) (M : Mem) (Qc : Array Value → State → Outcome → State → Prop) : Prop :=
  ∀ (p : Program) (e : Env) (s : State) (m : MethodId) (args : Array Value) (below : List Frame) (meth : Method) (c : Code) (ls : Array Slot), Cx p s m args c cc nL y.cls g → meth.sig.returnType = rt → meth.locks = false → Wd g lay N s.heap M s.heap [] → lv_has ls nL (lv_args 0 av) → W p l e R s m args below meth c s.heap [] 0 0 (MQ below Qc args s 0 0 (gF g)) (F0 m 0 ls [])
theorem m_of {y : MethodName} {rt : Option FieldType} {f L : Nat} {av : List Value} {Qc : Array Value → State → Outcome → State → Prop} (hy : plainName y.cls = true) (hn : (lg_sl av).length ≤ nL) (body : Bdy l y cc nL rt (rmOf f L) g lay N av M Qc) : Met l y (wsY y cc nL rt) (rmOf f L) (va_Pc av (PreW g lay N M)) Qc 0 0 (gF g) := by
  refine Met.ofW (cc := cc) (maxL := nL) (ret := rt) hy rfl ?_
  intro p e s m args below meth c s₁ B hml hv
  obtain ⟨rfl, hP, hD, hK, hSt⟩ := hv
  have hts := atoms_spec (ws := wsY y cc nL rt) B.pre
  have hown : s.vm.findClass y.cls = some m.cls := findClass_of_methodNamed B.named
  rw [lg_entry_eq]
  exact body p e s m _ below meth c _ ⟨⟨B.exec, B.bytes, hml, hown, fun w h => hts w (List.mem_cons_of_mem _ h)⟩, hK, hSt⟩ B.returns B.notSynchronized ⟨hP, hD, va_S.rf⟩ (lv_entry av hn)
/-! a method's end -/
theorem q_iret {Q : Int32 → Mem → Prop} {v : Int32} {rt : FieldType} (C : Cx p s m args c cc nL own g) (hr : meth.sig.returnType = some rt) (hlocks : meth.locks = false) (w : Wd g lay N s.heap M H locs) (hn : narrow rt (.int v) = .int v) (hq : Q v M) (hdg : decode cc pc = .ok (.ireturn, 1)) : W p l e R s m args below meth c H locs 0 0 (MQ below (va_Qi Q (PostW g lay N) (gF g)) args s 0 0 (gF g)) (F0 m pc ls [.int v]) :=
  W.zret C.1.1 C.1.2.1 hr hn (fun t ht _ => ⟨⟨v, M, rfl, hq, by rw [ht]; exact w.1, w.2.1⟩, w.2.2.F ht⟩) w.2.2.2.2 hdg hlocks
theorem q_lret {Q : Int64 → Mem → Prop} {v : Int64} (C : Cx p s m args c cc nL own g) (hr : meth.sig.returnType = some .long) (hlocks : meth.locks = false) (w : Wd g lay N s.heap M H locs) (hq : Q v M) (hdg : decode cc pc = .ok (.lreturn, 1)) : W p l e R s m args below meth c H locs 0 0 (MQ below (va_Ql Q (PostW g lay N) (gF g)) args s 0 0 (gF g)) (F0 m pc ls [.long v]) :=
  W.lret C.1.1 C.1.2.1 hr (fun t ht _ => ⟨⟨v, M, rfl, hq, by rw [ht]; exact w.1, w.2.1⟩, w.2.2.F ht⟩) w.2.2.2.2 hdg hlocks
theorem q_vret {Q : Mem → Prop} (C : Cx p s m args c cc nL own g) (hr : meth.sig.returnType = none) (hlocks : meth.locks = false) (w : Wd g lay N s.heap M H locs) (hq : Q M) (hdg : decode cc pc = .ok (.return_, 1)) : W p l e R s m args below meth c H locs 0 0 (MQ below (va_Qv Q (PostW g lay N) (gF g)) args s 0 0 (gF g)) (F0 m pc ls []) :=
  W.vret C.1.1 C.1.2.1 hr (fun t ht _ => ⟨⟨M, rfl, hq, by rw [ht]; exact w.1, w.2.1⟩, w.2.2.F ht⟩) w.2.2.2.2 hdg hlocks
theorem q_tret {Q : Nat → Mem → Prop} {i : Nat} {n : String} (C : Cx p s m args c cc nL own g) (hr : meth.sig.returnType = some (.object n)) (hlocks : meth.locks = false) (w : Wd g lay N s.heap M H locs) (hq : Q i M) (hdg : decode cc pc = .ok (.areturn, 1)) : W p l e R s m args below meth c H locs 0 0 (MQ below (va_Qr (fun u : Nat × Mem => Q u.1 u.2) (fun u a t => a = gK g u.1 ∧ PostW g lay N u.2 t) (gF g)) args s 0 0 (gF g)) (F0 m pc ls [.ref (gK g i)]) :=
  W.aret C.1.1 C.1.2.1 hr (Or.inl ⟨n, rfl⟩) (Or.inr ⟨_, rfl⟩) (fun t ht _ => ⟨⟨(i, M), gK g i, rfl, hq, rfl, by rw [ht]; exact w.1, w.2.1⟩, w.2.2.F ht⟩) w.2.2.2.2 hdg hlocks
/-! calls -/
/-- a method of an object, in the tables -/
def Kv (Cn : String) (y : MethodName) (cc : ByteArray) (nL : Nat) (rt : Option FieldType) (n : Nat) : Prop := (.instanceMethod y ∈ ALL ∧ .selects Cn y y ∈ ALL ∧ .initialized Cn ∈ ALL ∧ .code y cc nL rt ∈ ALL) ∧ (y.cls = Cn ∧ y.cls ≠ "java/lang/invoke/MethodHandle" ∧ y.cls ≠ "java/lang/invoke/VarHandle" ∧ (parseMethodDescriptor y.desc).map (fun d => d.parameters.length) = some n)
/-- a static method, in the tables -/
def Ks (y : MethodName) (cc : ByteArray) (nL : Nat) (rt : Option FieldType) (n : Nat) : Prop := (.static y ∈ ALL ∧ .initialized y.cls ∈ ALL ∧ .code y cc nL rt ∈ ALL) ∧ (y.cls ≠ "java/lang/invoke/MethodHandle" ∧ y.cls ≠ "java/lang/invoke/VarHandle" ∧ (parseMethodDescriptor y.desc).map (fun d => d.parameters.length) = some n)
variable {y : MethodName} {bc : ByteArray} {nB index n f L : Nat} {rt : Option FieldType} {Cn : String}
theorem cv_of (C : Cx p s m args c cc nL own g) (k : Kv Cn y bc nB rt n) (hlk : Cond.methodLink own index y ∈ ALL) (hR : f + 1 ≤ R.frames ∧ 8 + (nB + 11) + L ≤ R.locals) : CallW R s args own Cn index y bc nB rt (wsY y bc nB rt) (rmOf f L) 0 0 n := by
  obtain ⟨⟨k1, k2, k3, k4⟩, k5⟩ := k
  refine cwV n C.1.2.2.2.2 (good_cons hlk (good_cons k1 (good_cons k2 (good_cons k3 (good_cons k4 all_good))))) rfl rfl rfl k5 hR
theorem cs_of (C : Cx p s m args c cc nL own g) (k : Ks y bc nB rt n) (hlk : Cond.methodLink own index y ∈ ALL) (hR : f + 1 ≤ R.frames ∧ 8 + (nB + 11) + L ≤ R.locals) : CallB R s args own index y bc nB rt (wsY y bc nB rt) (rmOf f L) 0 0 n ∧ (Cond.static y).before args s = true := by
  obtain ⟨⟨k1, k2, k3⟩, k5⟩ := k
  exact va_cwS n C.1.2.2.2.2 (good_cons hlk (good_cons k1 (good_cons k2 (good_cons k3 all_good)))) rfl rfl rfl k5 hR
theorem rcv (C : Cx p s m args c cc nL own g) (w : Wd g lay N s.heap M H locs) {o ci n : Nat} {fs : List (Option Nat)} {Cn : String} {T : u_T} {ty : Nat → FieldType} (K : KC ci Cn T n ty) (ho : o < N) (hl : lay o = .inl (ci, fs)) : ∃ cell : Cell, H[ga g o]? = some cell ∧ cell.vm.isStatics = false ∧ s.vm.findClass Cn = some cell.cls := by
  have he := wsOf_get (cA := gC g) (ad := ga g) (lay := lay) (M := M) ho
  rw [hl] at he
  exact va_recv C.2.1 w.1 K.2.1 he
theorem rcvT (C : Cx p s m args c cc nL own g) (w : Wd g lay N s.heap M H locs) {i : Nat} (hi : i < 6) : ∃ cell : Cell, H[gK g i]? = some cell ∧ cell.vm.isStatics = false ∧ s.vm.findClass "java/lang/String" = some cell.cls := vk_recv C.2.2.1.2.2.2.2.1 hi w.2.2
theorem q_cVi {b : Nat} {Q : Int32 → Mem → Prop} (C : Cx p s m args c cc nL own g) (w : Wd g lay N s.heap M H locs) (As : List Value) (hM : MI l y bc nB rt f L g lay N (.ref b :: As) M Q) (k : Kv Cn y bc nB rt n) (hlk : Cond.methodLink own index y ∈ ALL) (hrc : ∃ cell : Cell, H[b]? = some cell ∧ cell.vm.isStatics = false ∧ s.vm.findClass Cn = some cell.cls) (hn : As.length = n) (hsz : ls.size = nL) (hW : (rest.map fun v => v.category).sum ≤ 8) (hR : f + 1 ≤ R.frames ∧ 8 + (nB + 11) + L ≤ R.locals) (hdg : decode cc pc = .ok (.invokevirtual index, 3))
    (kk : ∀ (r : Int32) (M1 : Mem) (H1 : Heap) (locs1 : List Loc), Q r M1 → Wd g lay N s.heap M1 H1 locs1 → W p l e R s m args below meth c H1 locs1 0 0 Qs (F0 m (pc + 3) ls (.int r :: rest))) : W p l e R s m args below meth c H locs 0 0 Qs (F0 m pc ls (As.reverse ++ .ref b :: rest)) := by
  refine va_calli (va_runV (As := As) (rest := rest) C.1 hM (cv_of C k hlk hR) ⟨PreW.blind, hrc, fun U hU hW => PreW.of C w hU hW⟩ rfl hn hsz rfl (lv_room hW) hdg ⟨Nat.zero_le _, Nat.zero_le _⟩) w.2.2 (fun _ _ h => h) (fun _ h => h) (fun r u t H1 locs1 ht hvm hw hB hz1 hk1 hS => ?_)
  obtain ⟨hP1, hD1⟩ := hB
  rw [ht] at hP1
  exact kk r u H1 locs1 hw ⟨hP1, hD1, hS⟩
theorem q_cVl {b : Nat} {Q : Int64 → Mem → Prop} (C : Cx p s m args c cc nL own g) (w : Wd g lay N s.heap M H locs) (As : List Value) (hM : ML l y bc nB rt f L g lay N (.ref b :: As) M Q) (k : Kv Cn y bc nB rt n) (hlk : Cond.methodLink own index y ∈ ALL) (hrc : ∃ cell : Cell, H[b]? = some cell ∧ cell.vm.isStatics = false ∧ s.vm.findClass Cn = some cell.cls) (hn : As.length = n) (hsz : ls.size = nL) (hW : (rest.map fun v => v.category).sum ≤ 8) (hR : f + 1 ≤ R.frames ∧ 8 + (nB + 11) + L ≤ R.locals) (hdg : decode cc pc = .ok (.invokevirtual index, 3))
    (kk : ∀ (r : Int64) (M1 : Mem) (H1 : Heap) (locs1 : List Loc), Q r M1 → Wd g lay N s.heap M1 H1 locs1 → W p l e R s m args below meth c H1 locs1 0 0 Qs (F0 m (pc + 3) ls (.long r :: rest))) : W p l e R s m args below meth c H locs 0 0 Qs (F0 m pc ls (As.reverse ++ .ref b :: rest)) := by
  refine va_calll (va_runV (As := As) (rest := rest) C.1 hM (cv_of C k hlk hR) ⟨PreW.blind, hrc, fun U hU hW => PreW.of C w hU hW⟩ rfl hn hsz rfl (lv_room hW) hdg ⟨Nat.zero_le _, Nat.zero_le _⟩) w.2.2 (fun _ _ h => h) (fun _ h => h) (fun r u t H1 locs1 ht hvm hw hB hz1 hk1 hS => ?_)
  obtain ⟨hP1, hD1⟩ := hB
  rw [ht] at hP1
  exact kk r u H1 locs1 hw ⟨hP1, hD1, hS⟩
theorem q_cVv {b : Nat} {Q : Mem → Prop} (C : Cx p s m args c cc nL own g) (w : Wd g lay N s.heap M H locs) (As : List Value) (hM : MV l y bc nB rt f L g lay N (.ref b :: As) M Q) (k : Kv Cn y bc nB rt n) (hlk : Cond.methodLink own index y ∈ ALL) (hrc : ∃ cell : Cell, H[b]? = some cell ∧ cell.vm.isStatics = false ∧ s.vm.findClass Cn = some cell.cls) (hn : As.length = n) (hsz : ls.size = nL) (hW : (rest.map fun v => v.category).sum ≤ 8) (hR : f + 1 ≤ R.frames ∧ 8 + (nB + 11) + L ≤ R.locals) (hdg : decode cc pc = .ok (.invokevirtual index, 3))
    (kk : ∀ (M1 : Mem) (H1 : Heap) (locs1 : List Loc), Q M1 → Wd g lay N s.heap M1 H1 locs1 → W p l e R s m args below meth c H1 locs1 0 0 Qs (F0 m (pc + 3) ls rest)) : W p l e R s m args below meth c H locs 0 0 Qs (F0 m pc ls (As.reverse ++ .ref b :: rest)) := by
  refine va_callv (va_runV (As := As) (rest := rest) C.1 hM (cv_of C k hlk hR) ⟨PreW.blind, hrc, fun U hU hW => PreW.of C w hU hW⟩ rfl hn hsz rfl (lv_room hW) hdg ⟨Nat.zero_le _, Nat.zero_le _⟩) w.2.2 (fun _ _ h => h) (fun _ h => h) (fun u t H1 locs1 ht hvm hw hB hz1 hk1 hS => ?_)
  obtain ⟨hP1, hD1⟩ := hB
  rw [ht] at hP1
  exact kk u H1 locs1 hw ⟨hP1, hD1, hS⟩
theorem q_cSi {Q : Int32 → Mem → Prop} (C : Cx p s m args c cc nL own g) (w : Wd g lay N s.heap M H locs) (As : List Value) (hM : MI l y bc nB rt f L g lay N As M Q) (k : Ks y bc nB rt n) (hlk : Cond.methodLink own index y ∈ ALL) (hn : As.length = n) (hsz : ls.size = nL) (hW : (rest.map fun v => v.category).sum ≤ 8) (hR : f + 1 ≤ R.frames ∧ 8 + (nB + 11) + L ≤ R.locals) (hdg : decode cc pc = .ok (.invokestatic index, 3))
    (kk : ∀ (r : Int32) (M1 : Mem) (H1 : Heap) (locs1 : List Loc), Q r M1 → Wd g lay N s.heap M1 H1 locs1 → W p l e R s m args below meth c H1 locs1 0 0 Qs (F0 m (pc + 3) ls (.int r :: rest))) : W p l e R s m args below meth c H locs 0 0 Qs (F0 m pc ls (As.reverse ++ rest)) := by
  refine va_calli (va_runS (As := As) (rest := rest) C.1 hM (cs_of C k hlk hR) ⟨PreW.blind, fun U hU hW => PreW.of C w hU hW⟩ rfl hn hsz rfl (lv_room hW) hdg ⟨Nat.zero_le _, Nat.zero_le _⟩) w.2.2 (fun _ _ h => h) (fun _ h => h) (fun r u t H1 locs1 ht hvm hw hB hz1 hk1 hS => ?_)
  obtain ⟨hP1, hD1⟩ := hB
  rw [ht] at hP1
  exact kk r u H1 locs1 hw ⟨hP1, hD1, hS⟩
theorem q_cSl {Q : Int64 → Mem → Prop} (C : Cx p s m args c cc nL own g) (w : Wd g lay N s.heap M H locs) (As : List Value) (hM : ML l y bc nB rt f L g lay N As M Q) (k : Ks y bc nB rt n) (hlk : Cond.methodLink own index y ∈ ALL) (hn : As.length = n) (hsz : ls.size = nL) (hW : (rest.map fun v => v.category).sum ≤ 8) (hR : f + 1 ≤ R.frames ∧ 8 + (nB + 11) + L ≤ R.locals) (hdg : decode cc pc = .ok (.invokestatic index, 3))
    (kk : ∀ (r : Int64) (M1 : Mem) (H1 : Heap) (locs1 : List Loc), Q r M1 → Wd g lay N s.heap M1 H1 locs1 → W p l e R s m args below meth c H1 locs1 0 0 Qs (F0 m (pc + 3) ls (.long r :: rest))) : W p l e R s m args below meth c H locs 0 0 Qs (F0 m pc ls (As.reverse ++ rest)) := by
  refine va_calll (va_runS (As := As) (rest := rest) C.1 hM (cs_of C k hlk hR) ⟨PreW.blind, fun U hU hW => PreW.of C w hU hW⟩ rfl hn hsz rfl (lv_room hW) hdg ⟨Nat.zero_le _, Nat.zero_le _⟩) w.2.2 (fun _ _ h => h) (fun _ h => h) (fun r u t H1 locs1 ht hvm hw hB hz1 hk1 hS => ?_)
  obtain ⟨hP1, hD1⟩ := hB
  rw [ht] at hP1
  exact kk r u H1 locs1 hw ⟨hP1, hD1, hS⟩
theorem q_cSv {Q : Mem → Prop} (C : Cx p s m args c cc nL own g) (w : Wd g lay N s.heap M H locs) (As : List Value) (hM : MV l y bc nB rt f L g lay N As M Q) (k : Ks y bc nB rt n) (hlk : Cond.methodLink own index y ∈ ALL) (hn : As.length = n) (hsz : ls.size = nL) (hW : (rest.map fun v => v.category).sum ≤ 8) (hR : f + 1 ≤ R.frames ∧ 8 + (nB + 11) + L ≤ R.locals) (hdg : decode cc pc = .ok (.invokestatic index, 3))
    (kk : ∀ (M1 : Mem) (H1 : Heap) (locs1 : List Loc), Q M1 → Wd g lay N s.heap M1 H1 locs1 → W p l e R s m args below meth c H1 locs1 0 0 Qs (F0 m (pc + 3) ls rest)) : W p l e R s m args below meth c H locs 0 0 Qs (F0 m pc ls (As.reverse ++ rest)) := by
  refine va_callv (va_runS (As := As) (rest := rest) C.1 hM (cs_of C k hlk hR) ⟨PreW.blind, fun U hU hW => PreW.of C w hU hW⟩ rfl hn hsz rfl (lv_room hW) hdg ⟨Nat.zero_le _, Nat.zero_le _⟩) w.2.2 (fun _ _ h => h) (fun _ h => h) (fun u t H1 locs1 ht hvm hw hB hz1 hk1 hS => ?_)
  obtain ⟨hP1, hD1⟩ := hB
  rw [ht] at hP1
  exact kk u H1 locs1 hw ⟨hP1, hD1, hS⟩
theorem q_cSt {Q : Nat → Mem → Prop} (C : Cx p s m args c cc nL own g) (w : Wd g lay N s.heap M H locs) (As : List Value) (hM : MT l y bc nB rt f L g lay N As M Q) (k : Ks y bc nB rt n) (hlk : Cond.methodLink own index y ∈ ALL) (hn : As.length = n) (hsz : ls.size = nL) (hW : (rest.map fun v => v.category).sum ≤ 8) (hR : f + 1 ≤ R.frames ∧ 8 + (nB + 11) + L ≤ R.locals) (hdg : decode cc pc = .ok (.invokestatic index, 3))
    (kk : ∀ (i : Nat) (M1 : Mem) (H1 : Heap) (locs1 : List Loc), Q i M1 → Wd g lay N s.heap M1 H1 locs1 → W p l e R s m args below meth c H1 locs1 0 0 Qs (F0 m (pc + 3) ls (.ref (gK g i) :: rest))) : W p l e R s m args below meth c H locs 0 0 Qs (F0 m pc ls (As.reverse ++ rest)) := by
  refine va_callr (va_runS (As := As) (rest := rest) C.1 hM (cs_of C k hlk hR) ⟨PreW.blind, fun U hU hW => PreW.of C w hU hW⟩ rfl hn hsz rfl (lv_room hW) hdg ⟨Nat.zero_le _, Nat.zero_le _⟩) w.2.2 (fun _ _ h => h) (fun _ h => h) (fun u ra t H1 locs1 ht hvm hw hB hz1 hk1 hS => ?_)
  obtain ⟨rfl, hP1, hD1⟩ := hB
  rw [ht] at hP1
  exact kk u.1 u.2 H1 locs1 hw ⟨hP1, hD1, hS⟩
end BY
section BY2
variable {p : Program} {l : Launch} {e : Env} {R : Room} {s : State} {m : MethodId} {args : Array Value} {below : List Frame} {meth : Method} {c : Code} {H : Heap} {locs : List Loc} {Qs : State → Prop}
variable {cc : ByteArray} {pc nL : Nat} {ls : Array Slot} {rest : List Value} {own : String} {g : Gt} {lay : Nat → Lay} {N : Nat} {M : Mem}
variable {y : MethodName} {bc : ByteArray} {nB index n f L : Nat} {rt : Option FieldType} {Cn : String}
theorem q_pVi {b : Nat} {Q : Int32 → Prop} (C : Cx p s m args c cc nL own g) (w : Wd g lay N s.heap M H locs) (As : List Value) (hM : MI l y bc nB rt f L g lay N (.ref b :: As) M (fun r M1 => M1 = M ∧ Q r)) (k : Kv Cn y bc nB rt n) (hlk : Cond.methodLink own index y ∈ ALL) (hrc : ∃ cell : Cell, H[b]? = some cell ∧ cell.vm.isStatics = false ∧ s.vm.findClass Cn = some cell.cls) (hn : As.length = n) (hsz : ls.size = nL) (hW : (rest.map fun v => v.category).sum ≤ 8) (hR : f + 1 ≤ R.frames ∧ 8 + (nB + 11) + L ≤ R.locals) (hdg : decode cc pc = .ok (.invokevirtual index, 3))
    (kk : ∀ (r : Int32) (H1 : Heap) (locs1 : List Loc), Q r → Wd g lay N s.heap M H1 locs1 → W p l e R s m args below meth c H1 locs1 0 0 Qs (F0 m (pc + 3) ls (.int r :: rest))) : W p l e R s m args below meth c H locs 0 0 Qs (F0 m pc ls (As.reverse ++ .ref b :: rest)) :=
  q_cVi C w As hM k hlk hrc hn hsz hW hR hdg (fun r M1 H1 locs1 hq w => by
    obtain ⟨e, hq⟩ := hq
    rw [e] at w
    exact kk r H1 locs1 hq w)
theorem q_pSi {Q : Int32 → Prop} (C : Cx p s m args c cc nL own g) (w : Wd g lay N s.heap M H locs) (As : List Value) (hM : MI l y bc nB rt f L g lay N As M (fun r M1 => M1 = M ∧ Q r)) (k : Ks y bc nB rt n) (hlk : Cond.methodLink own index y ∈ ALL) (hn : As.length = n) (hsz : ls.size = nL) (hW : (rest.map fun v => v.category).sum ≤ 8) (hR : f + 1 ≤ R.frames ∧ 8 + (nB + 11) + L ≤ R.locals) (hdg : decode cc pc = .ok (.invokestatic index, 3))
    (kk : ∀ (r : Int32) (H1 : Heap) (locs1 : List Loc), Q r → Wd g lay N s.heap M H1 locs1 → W p l e R s m args below meth c H1 locs1 0 0 Qs (F0 m (pc + 3) ls (.int r :: rest))) : W p l e R s m args below meth c H locs 0 0 Qs (F0 m pc ls (As.reverse ++ rest)) :=
  q_cSi C w As hM k hlk hn hsz hW hR hdg (fun r M1 H1 locs1 hq w => by
    obtain ⟨e, hq⟩ := hq
    rw [e] at w
    exact kk r H1 locs1 hq w)
theorem q_pSl {Q : Int64 → Prop} (C : Cx p s m args c cc nL own g) (w : Wd g lay N s.heap M H locs) (As : List Value) (hM : ML l y bc nB rt f L g lay N As M (fun r M1 => M1 = M ∧ Q r)) (k : Ks y bc nB rt n) (hlk : Cond.methodLink own index y ∈ ALL) (hn : As.length = n) (hsz : ls.size = nL) (hW : (rest.map fun v => v.category).sum ≤ 8) (hR : f + 1 ≤ R.frames ∧ 8 + (nB + 11) + L ≤ R.locals) (hdg : decode cc pc = .ok (.invokestatic index, 3))
    (kk : ∀ (r : Int64) (H1 : Heap) (locs1 : List Loc), Q r → Wd g lay N s.heap M H1 locs1 → W p l e R s m args below meth c H1 locs1 0 0 Qs (F0 m (pc + 3) ls (.long r :: rest))) : W p l e R s m args below meth c H locs 0 0 Qs (F0 m pc ls (As.reverse ++ rest)) :=
  q_cSl C w As hM k hlk hn hsz hW hR hdg (fun r M1 H1 locs1 hq w => by
    obtain ⟨e, hq⟩ := hq
    rw [e] at w
    exact kk r H1 locs1 hq w)
theorem q_pSt {Q : Nat → Prop} (C : Cx p s m args c cc nL own g) (w : Wd g lay N s.heap M H locs) (As : List Value) (hM : MT l y bc nB rt f L g lay N As M (fun r M1 => M1 = M ∧ Q r)) (k : Ks y bc nB rt n) (hlk : Cond.methodLink own index y ∈ ALL) (hn : As.length = n) (hsz : ls.size = nL) (hW : (rest.map fun v => v.category).sum ≤ 8) (hR : f + 1 ≤ R.frames ∧ 8 + (nB + 11) + L ≤ R.locals) (hdg : decode cc pc = .ok (.invokestatic index, 3))
    (kk : ∀ (r : Nat) (H1 : Heap) (locs1 : List Loc), Q r → Wd g lay N s.heap M H1 locs1 → W p l e R s m args below meth c H1 locs1 0 0 Qs (F0 m (pc + 3) ls (.ref (gK g r) :: rest))) : W p l e R s m args below meth c H locs 0 0 Qs (F0 m pc ls (As.reverse ++ rest)) :=
  q_cSt C w As hM k hlk hn hsz hW hR hdg (fun r M1 H1 locs1 hq w => by
    obtain ⟨e, hq⟩ := hq
    rw [e] at w
    exact kk r H1 locs1 hq w)
end BY2
end
section
def irm (x y : Int32) : Int32 := x - x / y * y
def lrm (x y : Int64) : Int64 := x - x / y * y
def sl (x y : Int32) : Int32 := x <<< (y &&& 31)
def sr (x y : Int32) : Int32 := x >>> (y &&& 31)
def su (x y : Int32) : Int32 := (x.toUInt32 >>> (y.toUInt32 &&& Int32.toUInt32 31)).toInt32
section BZ
variable {p : Program} {l : Launch} {e : Env} {R : Room} {s : State} {m : MethodId} {args : Array Value} {below : List Frame} {meth : Method} {c : Code} {H : Heap} {locs : List Loc} {Qs : State → Prop}
variable {cc : ByteArray} {pc nL index : Nat} {ls : Array Slot} {rest : List Value} {own : String} {g : Gt} {lay : Nat → Lay} {N : Nat} {M : Mem}
theorem q_gsT (C : Cx p s m args c cc nL own g) (w : Wd g lay N s.heap M H locs) (hlk : Cond.fieldLink own index RX0 "TAKES_BY_KIND" "[I" ∈ ALL) (hdg : decode cc pc = .ok (.getstatic index, 3))
    (kk : W p l e R s m args below meth c H locs 0 0 Qs (F0 m (pc + 3) ls (.ref (gT g).1 :: rest))) : W p l e R s m args below meth c H locs 0 0 Qs (F0 m pc ls rest) :=
  va_gets C.1.1 C.1.2.1 C.2.2.1.1 w.2.2 C.1.2.2.2.1 (C.1.2.2.2.2 _ hlk) (fun _ h => h) hdg kk
theorem q_gsN (C : Cx p s m args c cc nL own g) (w : Wd g lay N s.heap M H locs) (hlk : Cond.fieldLink own index RX0 "NOISE_BY_KIND" "[I" ∈ ALL) (hdg : decode cc pc = .ok (.getstatic index, 3))
    (kk : W p l e R s m args below meth c H locs 0 0 Qs (F0 m (pc + 3) ls (.ref (gT g).2 :: rest))) : W p l e R s m args below meth c H locs 0 0 Qs (F0 m pc ls rest) :=
  va_gets C.1.1 C.1.2.1 C.2.2.1.2.2.1 w.2.2 C.1.2.2.2.1 (C.1.2.2.2.2 _ hlk) (fun _ h => h) hdg kk
theorem q_ldT (C : Cx p s m args c cc nL own g) (w : Wd g lay N s.heap M H locs) {i : Int32} (hin : vp_in i 4) (hdg : decode cc pc = .ok (.iaload, 1))
    (kk : W p l e R s m args below meth c H locs 0 0 Qs (F0 m (pc + 1) ls (.int (takesT i.toNatClampNeg) :: rest))) : W p l e R s m args below meth c H locs 0 0 Qs (F0 m pc ls (.int i :: .ref (gT g).1 :: rest)) :=
  va_ti C.1.1 C.1.2.1 C.2.2.1.2.1 w.2.2 hin rfl hdg kk
theorem q_ldN (C : Cx p s m args c cc nL own g) (w : Wd g lay N s.heap M H locs) {i : Int32} (hin : vp_in i 4) (hdg : decode cc pc = .ok (.iaload, 1))
    (kk : W p l e R s m args below meth c H locs 0 0 Qs (F0 m (pc + 1) ls (.int (noiseT i.toNatClampNeg) :: rest))) : W p l e R s m args below meth c H locs 0 0 Qs (F0 m pc ls (.int i :: .ref (gT g).2 :: rest)) :=
  va_ti C.1.1 C.1.2.1 C.2.2.1.2.2.2.1 w.2.2 hin rfl hdg kk
/-- a text constant, by its place -/
theorem q_ldS (C : Cx p s m args c cc nL own g) {i : Nat} {tx : String} (hZ : vk_R own index tx (gK g i) s) (hdg : decode cc pc = .ok (.ldc index, 2))
    (kk : W p l e R s m args below meth c H locs 0 0 Qs (F0 m (pc + 2) ls (.ref (gK g i) :: rest))) : W p l e R s m args below meth c H locs 0 0 Qs (F0 m pc ls rest) :=
  va_ldcS C.1.1 C.1.2.1 C.1.2.2.2.1 hZ hdg kk
theorem q_ldc (C : Cx p s m args c cc nL own g) {v : Int32} (hk : Cond.constant own index v ∈ ALL) (hdg : decode cc pc = .ok (.ldc index, 2))
    (kk : W p l e R s m args below meth c H locs 0 0 Qs (F0 m (pc + 2) ls (.int v :: rest))) : W p l e R s m args below meth c H locs 0 0 Qs (F0 m pc ls rest) :=
  lv_ldc C.1.1 C.1.2.1 C.1.2.2.2.1 (C.1.2.2.2.2 _ hk) hdg kk
theorem q_ldcw (C : Cx p s m args c cc nL own g) {v : Int32} (hk : Cond.constant own index v ∈ ALL) (hdg : decode cc pc = .ok (.ldc_w index, 3))
    (kk : W p l e R s m args below meth c H locs 0 0 Qs (F0 m (pc + 3) ls (.int v :: rest))) : W p l e R s m args below meth c H locs 0 0 Qs (F0 m pc ls rest) :=
  lv_ldcw C.1.1 C.1.2.1 C.1.2.2.2.1 (C.1.2.2.2.2 _ hk) hdg kk
theorem q_ldc2 (C : Cx p s m args c cc nL own g) {v : Int64} (hk : Cond.constantLong own index v ∈ ALL) (hdg : decode cc pc = .ok (.ldc2_w index, 3))
    (kk : W p l e R s m args below meth c H locs 0 0 Qs (F0 m (pc + 3) ls (.long v :: rest))) : W p l e R s m args below meth c H locs 0 0 Qs (F0 m pc ls rest) :=
  lv_ldc2 C.1.1 C.1.2.1 C.1.2.2.2.1 (C.1.2.2.2.2 _ hk) hdg kk
def kMin : Prop := Cond.static Lib.Math.min.name ∈ ALL ∧ Cond.initialized "java/lang/Math" ∈ ALL ∧ Cond.code Lib.Math.min.name Lib.Math.min.code 2 (some .int) ∈ ALL
def kMax : Prop := Cond.static Lib.Math.max.name ∈ ALL ∧ Cond.initialized "java/lang/Math" ∈ ALL ∧ Cond.code Lib.Math.max.name Lib.Math.max.code 2 (some .int) ∈ ALL
theorem q_min (C : Cx p s m args c cc nL own g) (k : kMin) (hlk : Cond.methodLink own index Lib.Math.min.name ∈ ALL) (hsz : ls.size = nL) {x y : Int32} (hR : 1 ≤ R.frames ∧ (rest.map fun v => v.category).sum + 13 ≤ R.locals) (hdg : decode cc pc = .ok (.invokestatic index, 3))
    (kk : W p l e R s m args below meth c H locs 0 0 Qs (F0 m (pc + 3) ls (.int (if y < x then y else x) :: rest))) : W p l e R s m args below meth c H locs 0 0 Qs (F0 m pc ls (.int y :: .int x :: rest)) :=
  va_mmin C.1.1 C.1.2.1 (C.1.2.2.1.trans hsz.symm) C.1.2.2.2.1 (C.1.2.2.2.2 _ hlk) (C.1.2.2.2.2 _ k.1) (C.1.2.2.2.2 _ k.2.1) (C.1.2.2.2.2 _ k.2.2) hR.1 hR.2 (Nat.zero_le _) (Nat.zero_le _) hdg kk
theorem q_max (C : Cx p s m args c cc nL own g) (k : kMax) (hlk : Cond.methodLink own index Lib.Math.max.name ∈ ALL) (hsz : ls.size = nL) {x y : Int32} (hR : 1 ≤ R.frames ∧ (rest.map fun v => v.category).sum + 13 ≤ R.locals) (hdg : decode cc pc = .ok (.invokestatic index, 3))
    (kk : W p l e R s m args below meth c H locs 0 0 Qs (F0 m (pc + 3) ls (.int (if x < y then y else x) :: rest))) : W p l e R s m args below meth c H locs 0 0 Qs (F0 m pc ls (.int y :: .int x :: rest)) :=
  va_mmax C.1.1 C.1.2.1 (C.1.2.2.1.trans hsz.symm) C.1.2.2.2.1 (C.1.2.2.2.2 _ hlk) (C.1.2.2.2.2 _ k.1) (C.1.2.2.2.2 _ k.2.1) (C.1.2.2.2.2 _ k.2.2) hR.1 hR.2 (Nat.zero_le _) (Nat.zero_le _) hdg kk
def kCopy : Prop := Cond.native arraycopyName ∈ ALL ∧ Cond.static arraycopyName ∈ ALL ∧ Cond.initialized "java/lang/System" ∈ ALL
/-- what arraycopy wants of its numbers -/
def cpOk (sp dp n : Int32) (n0 n1 : Nat) : Prop := ¬ sp < 0 ∧ ¬ dp < 0 ∧ ¬ n < 0 ∧ sp.toNatClampNeg + n.toNatClampNeg ≤ n0 ∧ dp.toNatClampNeg + n.toNatClampNeg ≤ n1
def mc (M : Mem) (o0 : Nat) (sp : Int32) (o1 : Nat) (dp n : Int32) : Mem := mr M o1 (va_cpy (M o0) (M o1) sp.toNatClampNeg dp.toNatClampNeg n.toNatClampNeg)
theorem q_copy (C : Cx p s m args c cc nL own g) (w : Wd g lay N s.heap M H locs) (k : kCopy) (hlk : Cond.methodLink own index arraycopyName ∈ ALL) (hsz : ls.size = nL) {o0 o1 n0 n1 : Nat} {sp dp n : Int32} (ho0 : o0 < N) (hl0 : lay o0 = .inr (.inl (0, n0))) (ho1 : o1 < N) (hl1 : lay o1 = .inr (.inl (0, n1))) (hok : cpOk sp dp n n0 n1) (hR : 1 ≤ R.frames ∧ (rest.map fun v => v.category).sum + (nativeFrameWords "java/lang/System" "arraycopy" 5 + 11) ≤ R.locals) (hdg : decode cc pc = .ok (.invokestatic index, 3))
    (kk : ∀ (M1 : Mem) (H1 : Heap) (locs1 : List Loc), M1 = mc M o0 sp o1 dp n → Wd g lay N s.heap M1 H1 locs1 → W p l e R s m args below meth c H1 locs1 0 0 Qs (F0 m (pc + 3) ls rest)) : W p l e R s m args below meth c H locs 0 0 Qs (F0 m pc ls (.int n :: .int dp :: .ref (ga g o1) :: .int sp :: .ref (ga g o0) :: rest)) := by
  have he0 := wsOf_get (cA := gC g) (ad := ga g) (lay := lay) (M := M) ho0
  rw [hl0] at he0
  have he1 := wsOf_get (cA := gC g) (ad := ga g) (lay := lay) (M := M) ho1
  rw [hl1] at he1
  obtain ⟨h1, h2, h3, h4, h5⟩ := hok
  refine va_copyi C.1.1 C.1.2.1 (C.1.2.2.1.trans hsz.symm) C.1.2.2.2.1 (C.1.2.2.2.2 _ hlk) (C.1.2.2.2.2 _ k.1) (C.1.2.2.2.2 _ k.2.1) (C.1.2.2.2.2 _ k.2.2) C.2.1 w.1 w.2.1 w.2.2 o0 o1 0 0 he0 he1 (ty := .int) rfl rfl rfl h1 h2 h3 h4 h5 (fun _ _ => rfl) hR.1 hR.2 hdg (fun H1 locs1 hP hD hS => kk _ H1 locs1 rfl ?_)
  have e : (ga g o1, (.inl (gC g 0, n1, .inl (va_cpy (M o0) (M o1) sp.toNatClampNeg dp.toNatClampNeg n.toNatClampNeg)) : va_E)) = (ga g o1, cellOf (gC g) (ga g) (lay o1) (va_cpy (M o0) (M o1) sp.toNatClampNeg dp.toNatClampNeg n.toNatClampNeg)) := by
    rw [hl1]
    rfl
  rw [e, wsOf_set] at hP hD
  exact ⟨hP, hD, hS⟩
/-! arithmetic under names of its own -/
theorem q_irem (C : Cx p s m args c cc nL own g) {x y : Int32} (hdg : decode cc pc = .ok (.irem, 1)) (hne : ¬ y = 0) (kk : W p l e R s m args below meth c H locs 0 0 Qs (F0 m (pc + 1) ls (.int (irm x y) :: rest))) : W p l e R s m args below meth c H locs 0 0 Qs (F0 m pc ls (.int y :: .int x :: rest)) := lv_irem C.1.1 C.1.2.1 hdg hne kk
theorem q_lrem (C : Cx p s m args c cc nL own g) {x y : Int64} (hdg : decode cc pc = .ok (.lrem, 1)) (hne : ¬ y = 0) (kk : W p l e R s m args below meth c H locs 0 0 Qs (F0 m (pc + 1) ls (.long (lrm x y) :: rest))) : W p l e R s m args below meth c H locs 0 0 Qs (F0 m pc ls (.long y :: .long x :: rest)) := lv_lrem C.1.1 C.1.2.1 hdg hne kk
theorem q_ishl (C : Cx p s m args c cc nL own g) {x y : Int32} (hdg : decode cc pc = .ok (.ishl, 1)) (kk : W p l e R s m args below meth c H locs 0 0 Qs (F0 m (pc + 1) ls (.int (sl x y) :: rest))) : W p l e R s m args below meth c H locs 0 0 Qs (F0 m pc ls (.int y :: .int x :: rest)) := lv_ishl C.1.1 C.1.2.1 hdg kk
theorem q_ishr (C : Cx p s m args c cc nL own g) {x y : Int32} (hdg : decode cc pc = .ok (.ishr, 1)) (kk : W p l e R s m args below meth c H locs 0 0 Qs (F0 m (pc + 1) ls (.int (sr x y) :: rest))) : W p l e R s m args below meth c H locs 0 0 Qs (F0 m pc ls (.int y :: .int x :: rest)) := lv_ishr C.1.1 C.1.2.1 hdg kk
theorem q_iushr (C : Cx p s m args c cc nL own g) {x y : Int32} (hdg : decode cc pc = .ok (.iushr, 1)) (kk : W p l e R s m args below meth c H locs 0 0 Qs (F0 m (pc + 1) ls (.int (su x y) :: rest))) : W p l e R s m args below meth c H locs 0 0 Qs (F0 m pc ls (.int y :: .int x :: rest)) := lv_iushr C.1.1 C.1.2.1 hdg rfl kk
/-- a switch by a table: one of its numbers -/
theorem q_tin (C : Cx p s m args c cc nL own g) {dflt lo hi : Int} {offs : Array Int} {len : Nat} {x k : Int32} {off : Int} {tgt : Nat} (hdg : decode cc pc = .ok (.tableswitch dflt lo hi offs, len)) (hx : x = k) (h1 : ¬ k.toInt < lo) (h2 : ¬ hi < k.toInt) (ho : offs[(k.toInt - lo).toNat]? = some off) (ht : (pc : Int) + off = (tgt : Int)) (kk : W p l e R s m args below meth c H locs 0 0 Qs (F0 m tgt ls rest)) : W p l e R s m args below meth c H locs 0 0 Qs (F0 m pc ls (.int x :: rest)) := by
  subst hx
  exact lv_tableIn C.1.1 C.1.2.1 hdg h1 h2 ho ht kk
theorem q_tout (C : Cx p s m args c cc nL own g) {dflt lo hi : Int} {offs : Array Int} {len : Nat} {x : Int32} {tgt : Nat} (hdg : decode cc pc = .ok (.tableswitch dflt lo hi offs, len)) (h : x.toInt < lo ∨ hi < x.toInt) (ht : (pc : Int) + dflt = (tgt : Int)) (kk : W p l e R s m args below meth c H locs 0 0 Qs (F0 m tgt ls rest)) : W p l e R s m args below meth c H locs 0 0 Qs (F0 m pc ls (.int x :: rest)) := lv_tableOut C.1.1 C.1.2.1 hdg h ht kk
theorem q_lin (C : Cx p s m args c cc nL own g) {dflt : Int} {ps : Array (Int × Int)} {len : Nat} {x k : Int32} {off : Int} {tgt : Nat} (hdg : decode cc pc = .ok (.lookupswitch dflt ps, len)) (hp : (ps.toList.zip (ps.toList.drop 1)).all (fun (a, next) => a.1 < next.1) = true) (hx : x = k) (ho : Op.lookupswitch.offset ps.toList dflt k.toInt = off) (ht : (pc : Int) + off = (tgt : Int)) (kk : W p l e R s m args below meth c H locs 0 0 Qs (F0 m tgt ls rest)) : W p l e R s m args below meth c H locs 0 0 Qs (F0 m pc ls (.int x :: rest)) := by
  subst hx
  exact lv_lookup C.1.1 C.1.2.1 hdg hp ho ht kk
theorem q_lout (C : Cx p s m args c cc nL own g) {dflt : Int} {ps : Array (Int × Int)} {len : Nat} {x : Int32} {off : Int} {tgt : Nat} (hdg : decode cc pc = .ok (.lookupswitch dflt ps, len)) (hp : (ps.toList.zip (ps.toList.drop 1)).all (fun (a, next) => a.1 < next.1) = true) (ho : Op.lookupswitch.offset ps.toList dflt x.toInt = off) (ht : (pc : Int) + off = (tgt : Int)) (kk : W p l e R s m args below meth c H locs 0 0 Qs (F0 m tgt ls rest)) : W p l e R s m args below meth c H locs 0 0 Qs (F0 m pc ls (.int x :: rest)) := lv_lookup C.1.1 C.1.2.1 hdg hp ho ht kk
end BZ
/-! loops, by a bound on their rounds -/
def fu1 {A1 : Type} (F : (A1 → Prop) → A1 → Prop) : Nat → A1 → Prop
  | 0, _ => False
  | n + 1, a1 => F (fu1 F n) a1
def fu2 {A1 A2 : Type} (F : (A1 → A2 → Prop) → A1 → A2 → Prop) : Nat → A1 → A2 → Prop
  | 0, _, _ => False
  | n + 1, a1, a2 => F (fu2 F n) a1 a2
def fu3 {A1 A2 A3 : Type} (F : (A1 → A2 → A3 → Prop) → A1 → A2 → A3 → Prop) : Nat → A1 → A2 → A3 → Prop
  | 0, _, _, _ => False
  | n + 1, a1, a2, a3 => F (fu3 F n) a1 a2 a3
def fu4 {A1 A2 A3 A4 : Type} (F : (A1 → A2 → A3 → A4 → Prop) → A1 → A2 → A3 → A4 → Prop) : Nat → A1 → A2 → A3 → A4 → Prop
  | 0, _, _, _, _ => False
  | n + 1, a1, a2, a3, a4 => F (fu4 F n) a1 a2 a3 a4
def fu5 {A1 A2 A3 A4 A5 : Type} (F : (A1 → A2 → A3 → A4 → A5 → Prop) → A1 → A2 → A3 → A4 → A5 → Prop) : Nat → A1 → A2 → A3 → A4 → A5 → Prop
  | 0, _, _, _, _, _ => False
  | n + 1, a1, a2, a3, a4, a5 => F (fu5 F n) a1 a2 a3 a4 a5
def fu6 {A1 A2 A3 A4 A5 A6 : Type} (F : (A1 → A2 → A3 → A4 → A5 → A6 → Prop) → A1 → A2 → A3 → A4 → A5 → A6 → Prop) : Nat → A1 → A2 → A3 → A4 → A5 → A6 → Prop
  | 0, _, _, _, _, _, _ => False
  | n + 1, a1, a2, a3, a4, a5, a6 => F (fu6 F n) a1 a2 a3 a4 a5 a6
def fu7 {A1 A2 A3 A4 A5 A6 A7 : Type} (F : (A1 → A2 → A3 → A4 → A5 → A6 → A7 → Prop) → A1 → A2 → A3 → A4 → A5 → A6 → A7 → Prop) : Nat → A1 → A2 → A3 → A4 → A5 → A6 → A7 → Prop
  | 0, _, _, _, _, _, _, _ => False
  | n + 1, a1, a2, a3, a4, a5, a6, a7 => F (fu7 F n) a1 a2 a3 a4 a5 a6 a7
def fu8 {A1 A2 A3 A4 A5 A6 A7 A8 : Type} (F : (A1 → A2 → A3 → A4 → A5 → A6 → A7 → A8 → Prop) → A1 → A2 → A3 → A4 → A5 → A6 → A7 → A8 → Prop) : Nat → A1 → A2 → A3 → A4 → A5 → A6 → A7 → A8 → Prop
  | 0, _, _, _, _, _, _, _, _ => False
  | n + 1, a1, a2, a3, a4, a5, a6, a7, a8 => F (fu8 F n) a1 a2 a3 a4 a5 a6 a7 a8
end
section
/-! the class's cells: 0 the object; 1.. now; 11 the trial, 12.. its estate; 22 the tape, 23 its bytes; 24 the reader; 25.. what is seen; 29 the outlook, 30 its rows, 31..36; 37 images, 38 kept, 39 sheets; 40.., 50.. the images; 60.. the sheets -/
def imgI (j : Nat) : Nat := 40 + 10 * j
def shI (j : Nat) : Nat := 60 + 2 * j
def rowI (j : Nat) : Nat := 31 + j
def estL (o : Nat) : Lay := .inl (0, [some (o + 1), some (o + 2), some (o + 3), some (o + 4), some (o + 5), some (o + 6), some (o + 7), some (o + 8), some (o + 9), none, none, none, none, none])
def eLen (k : Nat) : Nat := if k < 2 then 6 else if k < 6 then 5 else 3
def arrL (t n : Nat) : Lay := .inr (.inl (t, n))
def estB (o : Nat) : List Lay := [estL o, arrL 0 6, arrL 0 6, arrL 0 5, arrL 0 5, arrL 0 5, arrL 0 5, arrL 0 3, arrL 0 3, arrL 0 3]
def shB (o : Nat) : List Lay := [.inl (2, [some (o + 1), none, none]), arrL 0 40]
def layXL : List Lay := [.inl (7, [some 1, some 11, some 22, some 24, some 25, some 29, some 37, some 38, some 39, none, none])] ++ estB 1 ++ [.inl (6, [some 12, none, none, none, none, none])] ++ estB 12 ++ [.inl (4, [some 23, none]), arrL 1 160, .inl (5, [some 22, none, none, none, none, none, none, none]), .inl (3, [some 26, some 27, some 28, none]), arrL 0 6, arrL 0 6, arrL 0 6, .inl (1, [some 30, none]), .inr (.inr (5, 6, rowI)), arrL 0 126, arrL 0 126, arrL 0 126, arrL 0 126, arrL 0 126, arrL 0 126, .inr (.inr (3, 2, imgI)), arrL 2 2, .inr (.inr (4, 4, shI))] ++ estB 40 ++ estB 50 ++ shB 60 ++ shB 62 ++ shB 64 ++ shB 66
def layX (o : Nat) : Lay := layXL.getD o (arrL 0 0)
/-- the reference's cells: 0 the object, then its arrays -/
def layML : List Lay := [.inl (8, [some 1, none, some 2, none, none, some 3, none, none, none, none, none, none, none, none, some 4, some 5, none, none, none, none, some 6, none, some 7, some 8, some 9, some 10, some 11, none]), arrL 0 264, arrL 0 44, arrL 0 160, arrL 0 7, arrL 0 25, arrL 0 18, arrL 0 756, arrL 2 2, arrL 0 4, arrL 0 4, arrL 0 160]
def layM (o : Nat) : Lay := layML.getD o (arrL 0 0)
def isE (o : Nat) : Prop := o = 1 ∨ o = 12 ∨ o = 40 ∨ o = 50
def isS (o : Nat) : Prop := o = 60 ∨ o = 62 ∨ o = 64 ∨ o = 66
theorem isE_1 : isE 1 := Or.inl rfl
theorem isE_12 : isE 12 := Or.inr (Or.inl rfl)
theorem isE_40 : isE 40 := Or.inr (Or.inr (Or.inl rfl))
theorem isE_50 : isE 50 := Or.inr (Or.inr (Or.inr rfl))
theorem vp_in2 {i : Int32} (h : vp_in i 2) : i.toNatClampNeg = 0 ∨ i.toNatClampNeg = 1 := by
  have : i.toNatClampNeg < 2 := Nat.not_le.mp fun q => h (Or.inr q)
  omega
theorem vp_in4 {i : Int32} (h : vp_in i 4) : i.toNatClampNeg = 0 ∨ i.toNatClampNeg = 1 ∨ i.toNatClampNeg = 2 ∨ i.toNatClampNeg = 3 := by
  have : i.toNatClampNeg < 4 := Nat.not_le.mp fun q => h (Or.inr q)
  omega
theorem isE_img {i : Int32} (h : vp_in i 2) : isE (imgI i.toNatClampNeg) := by
  rcases vp_in2 h with e | e <;> rw [e]
  · exact isE_40
  · exact isE_50
theorem isS_sh {i : Int32} (h : vp_in i 4) : isS (shI i.toNatClampNeg) := by
  rcases vp_in4 h with e | e | e | e <;> rw [e]
  · exact Or.inl rfl
  · exact Or.inr (Or.inl rfl)
  · exact Or.inr (Or.inr (Or.inl rfl))
  · exact Or.inr (Or.inr (Or.inr rfl))
theorem eO {o : Nat} (h : isE o) : o < 68 := by unfold isE at h; omega
theorem eL {o : Nat} (h : isE o) : layX o = .inl (0, [some (o + 1), some (o + 2), some (o + 3), some (o + 4), some (o + 5), some (o + 6), some (o + 7), some (o + 8), some (o + 9), none, none, none, none, none]) := by
  rcases h with rfl | rfl | rfl | rfl <;> rfl
theorem eA0 {o : Nat} (h : isE o) : o + 1 < 68 ∧ layX (o + 1) = .inr (.inl (0, 6)) := by rcases h with rfl | rfl | rfl | rfl <;> exact ⟨by omega, rfl⟩
theorem eA1 {o : Nat} (h : isE o) : o + 2 < 68 ∧ layX (o + 2) = .inr (.inl (0, 6)) := by rcases h with rfl | rfl | rfl | rfl <;> exact ⟨by omega, rfl⟩
theorem eA2 {o : Nat} (h : isE o) : o + 3 < 68 ∧ layX (o + 3) = .inr (.inl (0, 5)) := by rcases h with rfl | rfl | rfl | rfl <;> exact ⟨by omega, rfl⟩
theorem eA3 {o : Nat} (h : isE o) : o + 4 < 68 ∧ layX (o + 4) = .inr (.inl (0, 5)) := by rcases h with rfl | rfl | rfl | rfl <;> exact ⟨by omega, rfl⟩
theorem eA4 {o : Nat} (h : isE o) : o + 5 < 68 ∧ layX (o + 5) = .inr (.inl (0, 5)) := by rcases h with rfl | rfl | rfl | rfl <;> exact ⟨by omega, rfl⟩
theorem eA5 {o : Nat} (h : isE o) : o + 6 < 68 ∧ layX (o + 6) = .inr (.inl (0, 5)) := by rcases h with rfl | rfl | rfl | rfl <;> exact ⟨by omega, rfl⟩
theorem eA6 {o : Nat} (h : isE o) : o + 7 < 68 ∧ layX (o + 7) = .inr (.inl (0, 3)) := by rcases h with rfl | rfl | rfl | rfl <;> exact ⟨by omega, rfl⟩
theorem eA7 {o : Nat} (h : isE o) : o + 8 < 68 ∧ layX (o + 8) = .inr (.inl (0, 3)) := by rcases h with rfl | rfl | rfl | rfl <;> exact ⟨by omega, rfl⟩
theorem eA8 {o : Nat} (h : isE o) : o + 9 < 68 ∧ layX (o + 9) = .inr (.inl (0, 3)) := by rcases h with rfl | rfl | rfl | rfl <;> exact ⟨by omega, rfl⟩
theorem sO {o : Nat} (h : isS o) : o < 68 := by unfold isS at h; omega
theorem sL {o : Nat} (h : isS o) : layX o = .inl (2, [some (o + 1), none, none]) := by rcases h with rfl | rfl | rfl | rfl <;> rfl
theorem sA {o : Nat} (h : isS o) : o + 1 < 68 ∧ layX (o + 1) = .inr (.inl (0, 40)) := by rcases h with rfl | rfl | rfl | rfl <;> exact ⟨by omega, rfl⟩
theorem rA {i : Int32} (h : vp_in i 6) : rowI i.toNatClampNeg < 68 ∧ layX (rowI i.toNatClampNeg) = .inr (.inl (0, 126)) := by
  have : i.toNatClampNeg < 6 := Nat.not_le.mp fun q => h (Or.inr q)
  generalize i.toNatClampNeg = j at this
  rcases (show j = 0 ∨ j = 1 ∨ j = 2 ∨ j = 3 ∨ j = 4 ∨ j = 5 by omega) with rfl | rfl | rfl | rfl | rfl | rfl <;> exact ⟨by decide, rfl⟩
theorem aw0 {w : Cond} (i : Nat) (h : (k2_sels lw_privs)[i]? = some w) (g : goodWord w = true) : w ∈ ALL := List.mem_filter.mpr ⟨List.mem_append_left _ (List.mem_of_getElem? h), g⟩
theorem aw_t {w : Cond} (h : w ∈ tables_1) (g : goodWord w = true) : w ∈ ALL := List.mem_filter.mpr ⟨List.mem_append_right _ h, g⟩
theorem aw1 {w : Cond} (i : Nat) (h : tables_1_1[i]? = some w) (g : goodWord w = true) : w ∈ ALL := aw_t (List.mem_append_left _ (List.mem_of_getElem? h)) g
theorem aw2 {w : Cond} (i : Nat) (h : tables_1_2[i]? = some w) (g : goodWord w = true) : w ∈ ALL := aw_t (List.mem_append_right _ (List.mem_append_left _ (List.mem_of_getElem? h))) g
theorem aw3 {w : Cond} (i : Nat) (h : tables_1_3[i]? = some w) (g : goodWord w = true) : w ∈ ALL := aw_t (List.mem_append_right _ (List.mem_append_right _ (List.mem_append_left _ (List.mem_of_getElem? h)))) g
theorem aw4 {w : Cond} (i : Nat) (h : tables_1_4[i]? = some w) (g : goodWord w = true) : w ∈ ALL := aw_t (List.mem_append_right _ (List.mem_append_right _ (List.mem_append_right _ (List.mem_append_left _ (List.mem_of_getElem? h))))) g
theorem aw5 {w : Cond} (i : Nat) (h : tables_1_5[i]? = some w) (g : goodWord w = true) : w ∈ ALL := aw_t (List.mem_append_right _ (List.mem_append_right _ (List.mem_append_right _ (List.mem_append_right _ (List.mem_of_getElem? h))))) g
end
section
theorem hx_0 : 0 < 68 := by decide
theorem hx_1 : 1 < 68 := by decide
theorem hx_2 : 2 < 68 := by decide
theorem hx_3 : 3 < 68 := by decide
theorem hx_4 : 4 < 68 := by decide
theorem hx_5 : 5 < 68 := by decide
theorem hx_6 : 6 < 68 := by decide
theorem hx_7 : 7 < 68 := by decide
theorem hx_8 : 8 < 68 := by decide
theorem hx_9 : 9 < 68 := by decide
theorem hx_10 : 10 < 68 := by decide
theorem hx_11 : 11 < 68 := by decide
theorem hx_12 : 12 < 68 := by decide
theorem hx_13 : 13 < 68 := by decide
theorem hx_14 : 14 < 68 := by decide
theorem hx_15 : 15 < 68 := by decide
theorem hx_16 : 16 < 68 := by decide
theorem hx_17 : 17 < 68 := by decide
theorem hx_18 : 18 < 68 := by decide
theorem hx_19 : 19 < 68 := by decide
theorem hx_20 : 20 < 68 := by decide
theorem hx_21 : 21 < 68 := by decide
theorem hx_22 : 22 < 68 := by decide
theorem hx_23 : 23 < 68 := by decide
theorem hx_24 : 24 < 68 := by decide
theorem hx_25 : 25 < 68 := by decide
theorem hx_26 : 26 < 68 := by decide
theorem hx_27 : 27 < 68 := by decide
theorem hx_28 : 28 < 68 := by decide
theorem hx_29 : 29 < 68 := by decide
theorem hx_30 : 30 < 68 := by decide
theorem hx_31 : 31 < 68 := by decide
theorem hx_32 : 32 < 68 := by decide
theorem hx_33 : 33 < 68 := by decide
theorem hx_34 : 34 < 68 := by decide
theorem hx_35 : 35 < 68 := by decide
theorem hx_36 : 36 < 68 := by decide
theorem hx_37 : 37 < 68 := by decide
theorem hx_38 : 38 < 68 := by decide
theorem hx_39 : 39 < 68 := by decide
theorem hx_40 : 40 < 68 := by decide
theorem hx_41 : 41 < 68 := by decide
theorem hx_42 : 42 < 68 := by decide
theorem hx_43 : 43 < 68 := by decide
theorem hx_44 : 44 < 68 := by decide
theorem hx_45 : 45 < 68 := by decide
theorem hx_46 : 46 < 68 := by decide
theorem hx_47 : 47 < 68 := by decide
theorem hx_48 : 48 < 68 := by decide
theorem hx_49 : 49 < 68 := by decide
theorem hx_50 : 50 < 68 := by decide
theorem hx_51 : 51 < 68 := by decide
theorem hx_52 : 52 < 68 := by decide
theorem hx_53 : 53 < 68 := by decide
theorem hx_54 : 54 < 68 := by decide
theorem hx_55 : 55 < 68 := by decide
theorem hx_56 : 56 < 68 := by decide
theorem hx_57 : 57 < 68 := by decide
theorem hx_58 : 58 < 68 := by decide
theorem hx_59 : 59 < 68 := by decide
theorem hx_60 : 60 < 68 := by decide
theorem hx_61 : 61 < 68 := by decide
theorem hx_62 : 62 < 68 := by decide
theorem hx_63 : 63 < 68 := by decide
theorem hx_64 : 64 < 68 := by decide
theorem hx_65 : 65 < 68 := by decide
theorem hx_66 : 66 < 68 := by decide
theorem hx_67 : 67 < 68 := by decide
theorem hm_0 : 0 < 12 := by decide
theorem hm_1 : 1 < 12 := by decide
theorem hm_2 : 2 < 12 := by decide
theorem hm_3 : 3 < 12 := by decide
theorem hm_4 : 4 < 12 := by decide
theorem hm_5 : 5 < 12 := by decide
theorem hm_6 : 6 < 12 := by decide
theorem hm_7 : 7 < 12 := by decide
theorem hm_8 : 8 < 12 := by decide
theorem hm_9 : 9 < 12 := by decide
theorem hm_10 : 10 < 12 := by decide
theorem hm_11 : 11 < 12 := by decide
theorem lx_0 : layX 0 = .inl (7, [some 1, some 11, some 22, some 24, some 25, some 29, some 37, some 38, some 39, none, none]) := rfl
theorem lx_1 : layX 1 = .inl (0, [some 2, some 3, some 4, some 5, some 6, some 7, some 8, some 9, some 10, none, none, none, none, none]) := rfl
theorem lx_2 : layX 2 = .inr (.inl (0, 6)) := rfl
theorem lx_3 : layX 3 = .inr (.inl (0, 6)) := rfl
theorem lx_4 : layX 4 = .inr (.inl (0, 5)) := rfl
theorem lx_5 : layX 5 = .inr (.inl (0, 5)) := rfl
theorem lx_6 : layX 6 = .inr (.inl (0, 5)) := rfl
theorem lx_7 : layX 7 = .inr (.inl (0, 5)) := rfl
theorem lx_8 : layX 8 = .inr (.inl (0, 3)) := rfl
theorem lx_9 : layX 9 = .inr (.inl (0, 3)) := rfl
theorem lx_10 : layX 10 = .inr (.inl (0, 3)) := rfl
theorem lx_11 : layX 11 = .inl (6, [some 12, none, none, none, none, none]) := rfl
theorem lx_12 : layX 12 = .inl (0, [some 13, some 14, some 15, some 16, some 17, some 18, some 19, some 20, some 21, none, none, none, none, none]) := rfl
theorem lx_13 : layX 13 = .inr (.inl (0, 6)) := rfl
theorem lx_14 : layX 14 = .inr (.inl (0, 6)) := rfl
theorem lx_15 : layX 15 = .inr (.inl (0, 5)) := rfl
theorem lx_16 : layX 16 = .inr (.inl (0, 5)) := rfl
theorem lx_17 : layX 17 = .inr (.inl (0, 5)) := rfl
theorem lx_18 : layX 18 = .inr (.inl (0, 5)) := rfl
theorem lx_19 : layX 19 = .inr (.inl (0, 3)) := rfl
theorem lx_20 : layX 20 = .inr (.inl (0, 3)) := rfl
theorem lx_21 : layX 21 = .inr (.inl (0, 3)) := rfl
theorem lx_22 : layX 22 = .inl (4, [some 23, none]) := rfl
theorem lx_23 : layX 23 = .inr (.inl (1, 160)) := rfl
theorem lx_24 : layX 24 = .inl (5, [some 22, none, none, none, none, none, none, none]) := rfl
theorem lx_25 : layX 25 = .inl (3, [some 26, some 27, some 28, none]) := rfl
theorem lx_26 : layX 26 = .inr (.inl (0, 6)) := rfl
theorem lx_27 : layX 27 = .inr (.inl (0, 6)) := rfl
theorem lx_28 : layX 28 = .inr (.inl (0, 6)) := rfl
theorem lx_29 : layX 29 = .inl (1, [some 30, none]) := rfl
theorem lx_30 : layX 30 = .inr (.inr (5, 6, rowI)) := rfl
theorem lx_31 : layX 31 = .inr (.inl (0, 126)) := rfl
theorem lx_32 : layX 32 = .inr (.inl (0, 126)) := rfl
theorem lx_33 : layX 33 = .inr (.inl (0, 126)) := rfl
theorem lx_34 : layX 34 = .inr (.inl (0, 126)) := rfl
theorem lx_35 : layX 35 = .inr (.inl (0, 126)) := rfl
theorem lx_36 : layX 36 = .inr (.inl (0, 126)) := rfl
theorem lx_37 : layX 37 = .inr (.inr (3, 2, imgI)) := rfl
theorem lx_38 : layX 38 = .inr (.inl (2, 2)) := rfl
theorem lx_39 : layX 39 = .inr (.inr (4, 4, shI)) := rfl
theorem lx_40 : layX 40 = .inl (0, [some 41, some 42, some 43, some 44, some 45, some 46, some 47, some 48, some 49, none, none, none, none, none]) := rfl
theorem lx_41 : layX 41 = .inr (.inl (0, 6)) := rfl
theorem lx_42 : layX 42 = .inr (.inl (0, 6)) := rfl
theorem lx_43 : layX 43 = .inr (.inl (0, 5)) := rfl
theorem lx_44 : layX 44 = .inr (.inl (0, 5)) := rfl
theorem lx_45 : layX 45 = .inr (.inl (0, 5)) := rfl
theorem lx_46 : layX 46 = .inr (.inl (0, 5)) := rfl
theorem lx_47 : layX 47 = .inr (.inl (0, 3)) := rfl
theorem lx_48 : layX 48 = .inr (.inl (0, 3)) := rfl
theorem lx_49 : layX 49 = .inr (.inl (0, 3)) := rfl
theorem lx_50 : layX 50 = .inl (0, [some 51, some 52, some 53, some 54, some 55, some 56, some 57, some 58, some 59, none, none, none, none, none]) := rfl
theorem lx_51 : layX 51 = .inr (.inl (0, 6)) := rfl
theorem lx_52 : layX 52 = .inr (.inl (0, 6)) := rfl
theorem lx_53 : layX 53 = .inr (.inl (0, 5)) := rfl
theorem lx_54 : layX 54 = .inr (.inl (0, 5)) := rfl
theorem lx_55 : layX 55 = .inr (.inl (0, 5)) := rfl
theorem lx_56 : layX 56 = .inr (.inl (0, 5)) := rfl
theorem lx_57 : layX 57 = .inr (.inl (0, 3)) := rfl
theorem lx_58 : layX 58 = .inr (.inl (0, 3)) := rfl
theorem lx_59 : layX 59 = .inr (.inl (0, 3)) := rfl
theorem lx_60 : layX 60 = .inl (2, [some 61, none, none]) := rfl
theorem lx_61 : layX 61 = .inr (.inl (0, 40)) := rfl
theorem lx_62 : layX 62 = .inl (2, [some 63, none, none]) := rfl
theorem lx_63 : layX 63 = .inr (.inl (0, 40)) := rfl
theorem lx_64 : layX 64 = .inl (2, [some 65, none, none]) := rfl
theorem lx_65 : layX 65 = .inr (.inl (0, 40)) := rfl
theorem lx_66 : layX 66 = .inl (2, [some 67, none, none]) := rfl
theorem lx_67 : layX 67 = .inr (.inl (0, 40)) := rfl
theorem lm_0 : layM 0 = .inl (8, [some 1, none, some 2, none, none, some 3, none, none, none, none, none, none, none, none, some 4, some 5, none, none, none, none, some 6, none, some 7, some 8, some 9, some 10, some 11, none]) := rfl
theorem lm_1 : layM 1 = .inr (.inl (0, 264)) := rfl
theorem lm_2 : layM 2 = .inr (.inl (0, 44)) := rfl
theorem lm_3 : layM 3 = .inr (.inl (0, 160)) := rfl
theorem lm_4 : layM 4 = .inr (.inl (0, 7)) := rfl
theorem lm_5 : layM 5 = .inr (.inl (0, 25)) := rfl
theorem lm_6 : layM 6 = .inr (.inl (0, 18)) := rfl
theorem lm_7 : layM 7 = .inr (.inl (0, 756)) := rfl
theorem lm_8 : layM 8 = .inr (.inl (2, 2)) := rfl
theorem lm_9 : layM 9 = .inr (.inl (0, 4)) := rfl
theorem lm_10 : layM 10 = .inr (.inl (0, 4)) := rfl
theorem lm_11 : layM 11 = .inr (.inl (0, 160)) := rfl
theorem kin_X0 : ∀ k, k < 14 → lw_tbl[([116, 118, 120, 122, 124, 126, 128, 130, 132, 134, 136, 138, 140, 142] : List Nat).getD k 0]? = some (u_lay RX0 TX0 k) ∧ goodWord (u_lay RX0 TX0 k) = true := by decide +kernel
theorem kc_X0 : KC 0 RX0 TX0 14 tyX0 := ⟨List.forall_mem_map.mpr (fun k hk => aw _ (kin_X0 k (List.mem_range.mp hk)).1 (kin_X0 k (List.mem_range.mp hk)).2), rfl, tyX0_ok, nmX0⟩
theorem kin_X1 : ∀ k, k < 2 → lw_tbl[([261, 263] : List Nat).getD k 0]? = some (u_lay RX1 TX1 k) ∧ goodWord (u_lay RX1 TX1 k) = true := by decide +kernel
theorem kc_X1 : KC 1 RX1 TX1 2 tyX1 := ⟨List.forall_mem_map.mpr (fun k hk => aw _ (kin_X1 k (List.mem_range.mp hk)).1 (kin_X1 k (List.mem_range.mp hk)).2), rfl, tyX1_ok, nmX1⟩
theorem kin_X2 : ∀ k, k < 3 → lw_tbl[([279, 281, 283] : List Nat).getD k 0]? = some (u_lay RX2 TX2 k) ∧ goodWord (u_lay RX2 TX2 k) = true := by decide +kernel
theorem kc_X2 : KC 2 RX2 TX2 3 tyX2 := ⟨List.forall_mem_map.mpr (fun k hk => aw _ (kin_X2 k (List.mem_range.mp hk)).1 (kin_X2 k (List.mem_range.mp hk)).2), rfl, tyX2_ok, nmX2⟩
theorem kin_X3 : ∀ k, k < 4 → lw_tbl[([241, 243, 245, 247] : List Nat).getD k 0]? = some (u_lay RX3 TX3 k) ∧ goodWord (u_lay RX3 TX3 k) = true := by decide +kernel
theorem kc_X3 : KC 3 RX3 TX3 4 tyX3 := ⟨List.forall_mem_map.mpr (fun k hk => aw _ (kin_X3 k (List.mem_range.mp hk)).1 (kin_X3 k (List.mem_range.mp hk)).2), rfl, tyX3_ok, nmX3⟩
theorem kin_X4 : ∀ k, k < 2 → lw_tbl[([191, 193] : List Nat).getD k 0]? = some (u_lay RX4 TX4 k) ∧ goodWord (u_lay RX4 TX4 k) = true := by decide +kernel
theorem kc_X4 : KC 4 RX4 TX4 2 tyX4 := ⟨List.forall_mem_map.mpr (fun k hk => aw _ (kin_X4 k (List.mem_range.mp hk)).1 (kin_X4 k (List.mem_range.mp hk)).2), rfl, tyX4_ok, nmX4⟩
theorem kin_X5 : ∀ k, k < 8 → lw_tbl[([213, 215, 217, 219, 221, 223, 225, 227] : List Nat).getD k 0]? = some (u_lay RX5 TX5 k) ∧ goodWord (u_lay RX5 TX5 k) = true := by decide +kernel
theorem kc_X5 : KC 5 RX5 TX5 8 tyX5 := ⟨List.forall_mem_map.mpr (fun k hk => aw _ (kin_X5 k (List.mem_range.mp hk)).1 (kin_X5 k (List.mem_range.mp hk)).2), rfl, tyX5_ok, nmX5⟩
theorem kin_X6 : ∀ k, k < 6 → lw_tbl[([167, 169, 171, 173, 175, 177] : List Nat).getD k 0]? = some (u_lay RX6 TX6 k) ∧ goodWord (u_lay RX6 TX6 k) = true := by decide +kernel
theorem kc_X6 : KC 6 RX6 TX6 6 tyX6 := ⟨List.forall_mem_map.mpr (fun k hk => aw _ (kin_X6 k (List.mem_range.mp hk)).1 (kin_X6 k (List.mem_range.mp hk)).2), rfl, tyX6_ok, nmX6⟩
theorem kin_X7 : ∀ k, k < 11 → lw_tbl[([298, 300, 302, 304, 306, 308, 310, 312, 314, 316, 318] : List Nat).getD k 0]? = some (u_lay RX7 TX7 k) ∧ goodWord (u_lay RX7 TX7 k) = true := by decide +kernel
theorem kc_X7 : KC 7 RX7 TX7 11 tyX7 := ⟨List.forall_mem_map.mpr (fun k hk => aw _ (kin_X7 k (List.mem_range.mp hk)).1 (kin_X7 k (List.mem_range.mp hk)).2), rfl, tyX7_ok, nmX7⟩
theorem kin_X8 : ∀ k, k < 28 → lw_tbl[([859, 861, 863, 865, 867, 869, 871, 873, 875, 877, 879, 881, 883, 885, 887, 889, 891, 893, 895, 897, 899, 901, 903, 905, 907, 909, 911, 913] : List Nat).getD k 0]? = some (u_lay RX8 TX8 k) ∧ goodWord (u_lay RX8 TX8 k) = true := by decide +kernel
theorem kc_X8 : KC 8 RX8 TX8 28 tyX8 := ⟨List.forall_mem_map.mpr (fun k hk => aw _ (kin_X8 k (List.mem_range.mp hk)).1 (kin_X8 k (List.mem_range.mp hk)).2), rfl, tyX8_ok, nmX8⟩
theorem ks_J6_bitCount_0f7a4 : Ks yJ6_bitCount_0f7a4 cJ6_bitCount_0f7a4 1 (some .int) 1 := ⟨⟨aw3 85 (by decide +kernel) rfl, aw1 16 (by decide +kernel) rfl, aw3 86 (by decide +kernel) rfl⟩, by decide +kernel⟩
theorem ks_X0_sum : Ks yX0_sum cX0_sum 4 (some .int) 2 := ⟨⟨aw2 191 (by decide +kernel) rfl, aw1 2 (by decide +kernel) rfl, aw2 192 (by decide +kernel) rfl⟩, by decide +kernel⟩
theorem ks_X5_nameOfKind : Ks yX5_nameOfKind cX5_nameOfKind 1 (some (.object "java/lang/String")) 1 := ⟨⟨aw2 83 (by decide +kernel) rfl, aw1 5 (by decide +kernel) rfl, aw2 84 (by decide +kernel) rfl⟩, by decide +kernel⟩
theorem ks_X7_commonDivisor : Ks yX7_commonDivisor cX7_commonDivisor 11 (some .long) 2 := ⟨⟨aw3 156 (by decide +kernel) rfl, aw1 1 (by decide +kernel) rfl, aw3 157 (by decide +kernel) rfl⟩, by decide +kernel⟩
theorem ks_X7_isNoGate : Ks yX7_isNoGate cX7_isNoGate 1 (some .boolean) 1 := ⟨⟨aw2 224 (by decide +kernel) rfl, aw1 1 (by decide +kernel) rfl, aw2 225 (by decide +kernel) rfl⟩, by decide +kernel⟩
theorem ks_X7_isNoHaze : Ks yX7_isNoHaze cX7_isNoHaze 3 (some .boolean) 3 := ⟨⟨aw3 147 (by decide +kernel) rfl, aw1 1 (by decide +kernel) rfl, aw3 148 (by decide +kernel) rfl⟩, by decide +kernel⟩
theorem ks_X7_isNoQuestion : Ks yX7_isNoQuestion cX7_isNoQuestion 2 (some .boolean) 2 := ⟨⟨aw3 95 (by decide +kernel) rfl, aw1 1 (by decide +kernel) rfl, aw3 96 (by decide +kernel) rfl⟩, by decide +kernel⟩
theorem ks_X7_isNoSheet : Ks yX7_isNoSheet cX7_isNoSheet 1 (some .boolean) 1 := ⟨⟨aw4 6 (by decide +kernel) rfl, aw1 1 (by decide +kernel) rfl, aw4 7 (by decide +kernel) rfl⟩, by decide +kernel⟩
theorem ks_X7_isOutside : Ks yX7_isOutside cX7_isOutside 3 (some .boolean) 3 := ⟨⟨aw2 39 (by decide +kernel) rfl, aw1 1 (by decide +kernel) rfl, aw2 40 (by decide +kernel) rfl⟩, by decide +kernel⟩
theorem ks_X7_partOfFraction : Ks yX7_partOfFraction cX7_partOfFraction 7 (some .long) 3 := ⟨⟨aw3 153 (by decide +kernel) rfl, aw1 1 (by decide +kernel) rfl, aw3 154 (by decide +kernel) rfl⟩, by decide +kernel⟩
theorem ks_X7_replace : Ks yX7_replace cX7_replace 6 (some .int) 5 := ⟨⟨aw3 23 (by decide +kernel) rfl, aw1 1 (by decide +kernel) rfl, aw3 24 (by decide +kernel) rfl⟩, by decide +kernel⟩
theorem ks_X7_weightOf : Ks yX7_weightOf cX7_weightOf 6 (some .long) 3 := ⟨⟨aw3 163 (by decide +kernel) rfl, aw1 1 (by decide +kernel) rfl, aw3 164 (by decide +kernel) rfl⟩, by decide +kernel⟩
theorem ks_X8_in : Ks yX8_in cX8_in 6 (some .boolean) 3 := ⟨⟨aw4 155 (by decide +kernel) rfl, aw1 9 (by decide +kernel) rfl, aw4 156 (by decide +kernel) rfl⟩, by decide +kernel⟩
theorem ks_X8_isGate : Ks yX8_isGate cX8_isGate 1 (some .boolean) 1 := ⟨⟨aw4 227 (by decide +kernel) rfl, aw1 9 (by decide +kernel) rfl, aw4 228 (by decide +kernel) rfl⟩, by decide +kernel⟩
theorem ks_X8_lowest : Ks yX8_lowest cX8_lowest 11 (some .long) 3 := ⟨⟨aw5 131 (by decide +kernel) rfl, aw1 9 (by decide +kernel) rfl, aw5 132 (by decide +kernel) rfl⟩, by decide +kernel⟩
theorem kv_J0_charAt_5068e : Kv RJ0 yJ0_charAt_5068e cJ0_charAt_5068e 2 (some .char) 1 := ⟨⟨aw2 104 (by decide +kernel) rfl, aw2 105 (by decide +kernel) rfl, aw1 10 (by decide +kernel) rfl, aw2 106 (by decide +kernel) rfl⟩, by decide +kernel⟩
theorem kv_J0_length_8abf5 : Kv RJ0 yJ0_length_8abf5 cJ0_length_8abf5 1 (some .int) 0 := ⟨⟨aw2 94 (by decide +kernel) rfl, aw2 95 (by decide +kernel) rfl, aw1 10 (by decide +kernel) rfl, aw2 96 (by decide +kernel) rfl⟩, by decide +kernel⟩
theorem kv_X0_addKeeper : Kv RX0 yX0_addKeeper cX0_addKeeper 4 (some .boolean) 3 := ⟨⟨aw2 163 (by decide +kernel) rfl, aw2 164 (by decide +kernel) rfl, aw1 2 (by decide +kernel) rfl, aw2 165 (by decide +kernel) rfl⟩, by decide +kernel⟩
theorem kv_X0_addTaker : Kv RX0 yX0_addTaker cX0_addTaker 3 (some .boolean) 2 := ⟨⟨aw2 154 (by decide +kernel) rfl, aw2 155 (by decide +kernel) rfl, aw1 2 (by decide +kernel) rfl, aw2 156 (by decide +kernel) rfl⟩, by decide +kernel⟩
theorem kv_X0_bagsOfAll : Kv RX0 yX0_bagsOfAll cX0_bagsOfAll 1 (some .int) 0 := ⟨⟨aw2 194 (by decide +kernel) rfl, aw2 195 (by decide +kernel) rfl, aw1 2 (by decide +kernel) rfl, aw2 196 (by decide +kernel) rfl⟩, by decide +kernel⟩
theorem kv_X0_clear : Kv RX0 yX0_clear cX0_clear 2 none 0 := ⟨⟨aw1 32 (by decide +kernel) rfl, aw1 33 (by decide +kernel) rfl, aw1 2 (by decide +kernel) rfl, aw1 34 (by decide +kernel) rfl⟩, by decide +kernel⟩
theorem kv_X0_copyFrom : Kv RX0 yX0_copyFrom cX0_copyFrom 2 none 1 := ⟨⟨aw2 172 (by decide +kernel) rfl, aw2 173 (by decide +kernel) rfl, aw1 2 (by decide +kernel) rfl, aw2 174 (by decide +kernel) rfl⟩, by decide +kernel⟩
theorem kv_X0_earsOfAll : Kv RX0 yX0_earsOfAll cX0_earsOfAll 1 (some .int) 0 := ⟨⟨aw4 55 (by decide +kernel) rfl, aw4 56 (by decide +kernel) rfl, aw1 2 (by decide +kernel) rfl, aw4 57 (by decide +kernel) rfl⟩, by decide +kernel⟩
theorem kv_X0_fillBag : Kv RX0 yX0_fillBag cX0_fillBag 4 (some .int) 1 := ⟨⟨aw3 63 (by decide +kernel) rfl, aw0 14 (by decide +kernel) rfl, aw1 2 (by decide +kernel) rfl, aw3 64 (by decide +kernel) rfl⟩, by decide +kernel⟩
theorem kv_X0_growthOfAll : Kv RX0 yX0_growthOfAll cX0_growthOfAll 1 (some .int) 0 := ⟨⟨aw4 51 (by decide +kernel) rfl, aw4 52 (by decide +kernel) rfl, aw1 2 (by decide +kernel) rfl, aw4 53 (by decide +kernel) rfl⟩, by decide +kernel⟩
theorem kv_X0_heldBits : Kv RX0 yX0_heldBits cX0_heldBits 3 (some .int) 0 := ⟨⟨aw2 198 (by decide +kernel) rfl, aw2 199 (by decide +kernel) rfl, aw1 2 (by decide +kernel) rfl, aw2 200 (by decide +kernel) rfl⟩, by decide +kernel⟩
theorem kv_X0_keeperBitsAt : Kv RX0 yX0_keeperBitsAt cX0_keeperBitsAt 4 (some .int) 1 := ⟨⟨aw2 231 (by decide +kernel) rfl, aw2 232 (by decide +kernel) rfl, aw1 2 (by decide +kernel) rfl, aw2 233 (by decide +kernel) rfl⟩, by decide +kernel⟩
theorem kv_X0_lightOfAll : Kv RX0 yX0_lightOfAll cX0_lightOfAll 1 (some .int) 0 := ⟨⟨aw2 187 (by decide +kernel) rfl, aw2 188 (by decide +kernel) rfl, aw1 2 (by decide +kernel) rfl, aw2 189 (by decide +kernel) rfl⟩, by decide +kernel⟩
theorem kv_X0_nextCaughtBits : Kv RX0 yX0_nextCaughtBits cX0_nextCaughtBits 3 (some .int) 0 := ⟨⟨aw2 202 (by decide +kernel) rfl, aw2 203 (by decide +kernel) rfl, aw1 2 (by decide +kernel) rfl, aw2 204 (by decide +kernel) rfl⟩, by decide +kernel⟩
theorem kv_X0_noise : Kv RX0 yX0_noise cX0_noise 2 (some .int) 1 := ⟨⟨aw2 214 (by decide +kernel) rfl, aw2 215 (by decide +kernel) rfl, aw1 2 (by decide +kernel) rfl, aw2 216 (by decide +kernel) rfl⟩, by decide +kernel⟩
theorem kv_X0_passNight : Kv RX0 yX0_passNight cX0_passNight 4 (some .int) 1 := ⟨⟨aw3 51 (by decide +kernel) rfl, aw3 52 (by decide +kernel) rfl, aw1 2 (by decide +kernel) rfl, aw3 53 (by decide +kernel) rfl⟩, by decide +kernel⟩
theorem kv_X0_placeOf : Kv RX0 yX0_placeOf cX0_placeOf 2 (some .int) 1 := ⟨⟨aw2 210 (by decide +kernel) rfl, aw2 211 (by decide +kernel) rfl, aw1 2 (by decide +kernel) rfl, aw2 212 (by decide +kernel) rfl⟩, by decide +kernel⟩
theorem kv_X0_seize : Kv RX0 yX0_seize cX0_seize 2 none 1 := ⟨⟨aw3 56 (by decide +kernel) rfl, aw0 13 (by decide +kernel) rfl, aw1 2 (by decide +kernel) rfl, aw3 57 (by decide +kernel) rfl⟩, by decide +kernel⟩
theorem kv_X0_takerBitsAt : Kv RX0 yX0_takerBitsAt cX0_takerBitsAt 4 (some .int) 1 := ⟨⟨aw2 227 (by decide +kernel) rfl, aw2 228 (by decide +kernel) rfl, aw1 2 (by decide +kernel) rfl, aw2 229 (by decide +kernel) rfl⟩, by decide +kernel⟩
theorem kv_X0_takes : Kv RX0 yX0_takes cX0_takes 2 (some .int) 1 := ⟨⟨aw3 3 (by decide +kernel) rfl, aw3 4 (by decide +kernel) rfl, aw1 2 (by decide +kernel) rfl, aw3 5 (by decide +kernel) rfl⟩, by decide +kernel⟩
theorem kv_X0_wouldBeCaught : Kv RX0 yX0_wouldBeCaught cX0_wouldBeCaught 3 (some .boolean) 1 := ⟨⟨aw2 206 (by decide +kernel) rfl, aw2 207 (by decide +kernel) rfl, aw1 2 (by decide +kernel) rfl, aw2 208 (by decide +kernel) rfl⟩, by decide +kernel⟩
theorem kv_X1_add : Kv RX1 yX1_add cX1_add 3 none 1 := ⟨⟨aw3 218 (by decide +kernel) rfl, aw3 219 (by decide +kernel) rfl, aw1 7 (by decide +kernel) rfl, aw3 220 (by decide +kernel) rfl⟩, by decide +kernel⟩
theorem kv_X1_clear : Kv RX1 yX1_clear cX1_clear 1 none 0 := ⟨⟨aw3 214 (by decide +kernel) rfl, aw3 215 (by decide +kernel) rfl, aw1 7 (by decide +kernel) rfl, aw3 216 (by decide +kernel) rfl⟩, by decide +kernel⟩
theorem kv_X1_leftAtWorst : Kv RX1 yX1_leftAtWorst cX1_leftAtWorst 8 (some .int) 2 := ⟨⟨aw3 224 (by decide +kernel) rfl, aw3 225 (by decide +kernel) rfl, aw1 7 (by decide +kernel) rfl, aw3 226 (by decide +kernel) rfl⟩, by decide +kernel⟩
theorem kv_X2_faultAs : Kv RX2 yX2_faultAs cX2_faultAs 2 (some .int) 1 := ⟨⟨aw4 33 (by decide +kernel) rfl, aw4 34 (by decide +kernel) rfl, aw1 8 (by decide +kernel) rfl, aw4 35 (by decide +kernel) rfl⟩, by decide +kernel⟩
theorem kv_X2_isNothing : Kv RX2 yX2_isNothing cX2_isNothing 1 (some .boolean) 0 := ⟨⟨aw4 17 (by decide +kernel) rfl, aw4 18 (by decide +kernel) rfl, aw1 8 (by decide +kernel) rfl, aw4 19 (by decide +kernel) rfl⟩, by decide +kernel⟩
theorem kv_X2_lacks : Kv RX2 yX2_lacks cX2_lacks 2 (some .boolean) 1 := ⟨⟨aw4 25 (by decide +kernel) rfl, aw4 26 (by decide +kernel) rfl, aw1 8 (by decide +kernel) rfl, aw4 27 (by decide +kernel) rfl⟩, by decide +kernel⟩
theorem kv_X2_put : Kv RX2 yX2_put cX2_put 3 (some .boolean) 2 := ⟨⟨aw4 21 (by decide +kernel) rfl, aw4 22 (by decide +kernel) rfl, aw1 8 (by decide +kernel) rfl, aw4 23 (by decide +kernel) rfl⟩, by decide +kernel⟩
theorem kv_X2_renew : Kv RX2 yX2_renew cX2_renew 4 none 2 := ⟨⟨aw4 9 (by decide +kernel) rfl, aw4 10 (by decide +kernel) rfl, aw1 8 (by decide +kernel) rfl, aw4 11 (by decide +kernel) rfl⟩, by decide +kernel⟩
theorem kv_X3_add : Kv RX3 yX3_add cX3_add 4 (some .boolean) 3 := ⟨⟨aw3 174 (by decide +kernel) rfl, aw3 175 (by decide +kernel) rfl, aw1 6 (by decide +kernel) rfl, aw3 176 (by decide +kernel) rfl⟩, by decide +kernel⟩
theorem kv_X3_fit : Kv RX3 yX3_fit cX3_fit 4 (some .boolean) 1 := ⟨⟨aw3 190 (by decide +kernel) rfl, aw3 191 (by decide +kernel) rfl, aw1 6 (by decide +kernel) rfl, aw3 192 (by decide +kernel) rfl⟩, by decide +kernel⟩
theorem kv_X3_fitBehind : Kv RX3 yX3_fitBehind cX3_fitBehind 4 (some .boolean) 2 := ⟨⟨aw3 202 (by decide +kernel) rfl, aw0 19 (by decide +kernel) rfl, aw1 6 (by decide +kernel) rfl, aw3 203 (by decide +kernel) rfl⟩, by decide +kernel⟩
theorem kv_X3_latestNight : Kv RX3 yX3_latestNight cX3_latestNight 3 (some .int) 0 := ⟨⟨aw3 195 (by decide +kernel) rfl, aw0 18 (by decide +kernel) rfl, aw1 6 (by decide +kernel) rfl, aw3 196 (by decide +kernel) rfl⟩, by decide +kernel⟩
theorem kv_X4_append : Kv RX4 yX4_append cX4_append 2 (some .boolean) 1 := ⟨⟨aw2 42 (by decide +kernel) rfl, aw2 43 (by decide +kernel) rfl, aw1 4 (by decide +kernel) rfl, aw2 44 (by decide +kernel) rfl⟩, by decide +kernel⟩
theorem kv_X4_isBetween : Kv RX4 yX4_isBetween cX4_isBetween 4 (some .boolean) 3 := ⟨⟨aw2 67 (by decide +kernel) rfl, aw2 68 (by decide +kernel) rfl, aw1 4 (by decide +kernel) rfl, aw2 69 (by decide +kernel) rfl⟩, by decide +kernel⟩
theorem kv_X5_isName : Kv RX5 yX5_isName cX5_isName 3 (some .boolean) 1 := ⟨⟨aw2 91 (by decide +kernel) rfl, aw0 5 (by decide +kernel) rfl, aw1 5 (by decide +kernel) rfl, aw2 92 (by decide +kernel) rfl⟩, by decide +kernel⟩
theorem kv_X5_placeBehindAll : Kv RX5 yX5_placeBehindAll cX5_placeBehindAll 5 (some .int) 3 := ⟨⟨aw2 64 (by decide +kernel) rfl, aw0 1 (by decide +kernel) rfl, aw1 5 (by decide +kernel) rfl, aw2 65 (by decide +kernel) rfl⟩, by decide +kernel⟩
theorem kv_X5_readGate : Kv RX5 yX5_readGate cX5_readGate 3 (some .boolean) 1 := ⟨⟨aw2 169 (by decide +kernel) rfl, aw0 10 (by decide +kernel) rfl, aw1 5 (by decide +kernel) rfl, aw2 170 (by decide +kernel) rfl⟩, by decide +kernel⟩
theorem kv_X5_readKeeper : Kv RX5 yX5_readKeeper cX5_readKeeper 4 (some .boolean) 1 := ⟨⟨aw2 160 (by decide +kernel) rfl, aw0 9 (by decide +kernel) rfl, aw1 5 (by decide +kernel) rfl, aw2 161 (by decide +kernel) rfl⟩, by decide +kernel⟩
theorem kv_X5_readLine : Kv RX5 yX5_readLine cX5_readLine 3 (some .boolean) 1 := ⟨⟨aw2 80 (by decide +kernel) rfl, aw0 4 (by decide +kernel) rfl, aw1 5 (by decide +kernel) rfl, aw2 81 (by decide +kernel) rfl⟩, by decide +kernel⟩
theorem kv_X5_readLines : Kv RX5 yX5_readLines cX5_readLines 4 (some .int) 1 := ⟨⟨aw2 54 (by decide +kernel) rfl, aw2 55 (by decide +kernel) rfl, aw1 5 (by decide +kernel) rfl, aw2 56 (by decide +kernel) rfl⟩, by decide +kernel⟩
theorem kv_X5_readNumber : Kv RX5 yX5_readNumber cX5_readNumber 3 (some .boolean) 2 := ⟨⟨aw2 147 (by decide +kernel) rfl, aw0 7 (by decide +kernel) rfl, aw1 5 (by decide +kernel) rfl, aw2 148 (by decide +kernel) rfl⟩, by decide +kernel⟩
theorem kv_X5_readSemicolonBehind : Kv RX5 yX5_readSemicolonBehind cX5_readSemicolonBehind 1 (some .boolean) 0 := ⟨⟨aw2 151 (by decide +kernel) rfl, aw0 8 (by decide +kernel) rfl, aw1 5 (by decide +kernel) rfl, aw2 152 (by decide +kernel) rfl⟩, by decide +kernel⟩
theorem kv_X5_readTaker : Kv RX5 yX5_readTaker cX5_readTaker 3 (some .boolean) 2 := ⟨⟨aw2 143 (by decide +kernel) rfl, aw0 6 (by decide +kernel) rfl, aw1 5 (by decide +kernel) rfl, aw2 144 (by decide +kernel) rfl⟩, by decide +kernel⟩
theorem kv_X5_readToken : Kv RX5 yX5_readToken cX5_readToken 1 (some .boolean) 0 := ⟨⟨aw2 60 (by decide +kernel) rfl, aw0 0 (by decide +kernel) rfl, aw1 5 (by decide +kernel) rfl, aw2 61 (by decide +kernel) rfl⟩, by decide +kernel⟩
theorem kv_X5_refuse : Kv RX5 yX5_refuse cX5_refuse 2 (some .boolean) 1 := ⟨⟨aw2 76 (by decide +kernel) rfl, aw0 3 (by decide +kernel) rfl, aw1 5 (by decide +kernel) rfl, aw2 77 (by decide +kernel) rfl⟩, by decide +kernel⟩
theorem kv_X5_takeFigures : Kv RX5 yX5_takeFigures cX5_takeFigures 2 (some .boolean) 0 := ⟨⟨aw2 72 (by decide +kernel) rfl, aw0 2 (by decide +kernel) rfl, aw1 5 (by decide +kernel) rfl, aw2 73 (by decide +kernel) rfl⟩, by decide +kernel⟩
theorem kv_X6_begin : Kv RX6 yX6_begin cX6_begin 2 none 1 := ⟨⟨aw3 71 (by decide +kernel) rfl, aw3 72 (by decide +kernel) rfl, aw1 3 (by decide +kernel) rfl, aw3 73 (by decide +kernel) rfl⟩, by decide +kernel⟩
theorem kv_X6_pass : Kv RX6 yX6_pass cX6_pass 3 none 1 := ⟨⟨aw3 76 (by decide +kernel) rfl, aw3 77 (by decide +kernel) rfl, aw1 3 (by decide +kernel) rfl, aw3 78 (by decide +kernel) rfl⟩, by decide +kernel⟩
theorem kv_X6_passOne : Kv RX6 yX6_passOne cX6_passOne 3 none 1 := ⟨⟨aw3 80 (by decide +kernel) rfl, aw3 81 (by decide +kernel) rfl, aw1 3 (by decide +kernel) rfl, aw3 82 (by decide +kernel) rfl⟩, by decide +kernel⟩
theorem kv_X6_wasCaught : Kv RX6 yX6_wasCaught cX6_wasCaught 2 (some .boolean) 1 := ⟨⟨aw3 107 (by decide +kernel) rfl, aw3 108 (by decide +kernel) rfl, aw1 3 (by decide +kernel) rfl, aw3 109 (by decide +kernel) rfl⟩, by decide +kernel⟩
theorem kv_X7_fittingBits : Kv RX7 yX7_fittingBits cX7_fittingBits 6 (some .int) 3 := ⟨⟨aw3 187 (by decide +kernel) rfl, aw0 17 (by decide +kernel) rfl, aw1 1 (by decide +kernel) rfl, aw3 188 (by decide +kernel) rfl⟩, by decide +kernel⟩
theorem kv_X7_fullestBag : Kv RX7 yX7_fullestBag cX7_fullestBag 9 (some .int) 5 := ⟨⟨aw3 116 (by decide +kernel) rfl, aw0 15 (by decide +kernel) rfl, aw1 1 (by decide +kernel) rfl, aw3 117 (by decide +kernel) rfl⟩, by decide +kernel⟩
theorem kv_X7_isNoKeeper : Kv RX7 yX7_isNoKeeper cX7_isNoKeeper 2 (some .boolean) 1 := ⟨⟨aw3 15 (by decide +kernel) rfl, aw0 12 (by decide +kernel) rfl, aw1 1 (by decide +kernel) rfl, aw3 16 (by decide +kernel) rfl⟩, by decide +kernel⟩
theorem kv_X7_isNoTaker : Kv RX7 yX7_isNoTaker cX7_isNoTaker 2 (some .boolean) 1 := ⟨⟨aw3 0 (by decide +kernel) rfl, aw0 11 (by decide +kernel) rfl, aw1 1 (by decide +kernel) rfl, aw3 1 (by decide +kernel) rfl⟩, by decide +kernel⟩
theorem kv_X7_sendTaker : Kv RX7 yX7_sendTaker cX7_sendTaker 3 (some .boolean) 2 := ⟨⟨aw4 40 (by decide +kernel) rfl, aw0 20 (by decide +kernel) rfl, aw1 1 (by decide +kernel) rfl, aw4 41 (by decide +kernel) rfl⟩, by decide +kernel⟩
theorem kv_X7_takenInHazes : Kv RX7 yX7_takenInHazes cX7_takenInHazes 4 (some .int) 2 := ⟨⟨aw3 167 (by decide +kernel) rfl, aw0 16 (by decide +kernel) rfl, aw1 1 (by decide +kernel) rfl, aw3 168 (by decide +kernel) rfl⟩, by decide +kernel⟩
theorem kv_X8_alters : Kv RX8 yX8_alters cX8_alters 5 (some .int) 3 := ⟨⟨aw5 16 (by decide +kernel) rfl, aw0 35 (by decide +kernel) rfl, aw1 9 (by decide +kernel) rfl, aw5 17 (by decide +kernel) rfl⟩, by decide +kernel⟩
theorem kv_X8_atOn : Kv RX8 yX8_atOn cX8_atOn 3 (some .int) 2 := ⟨⟨aw4 212 (by decide +kernel) rfl, aw0 29 (by decide +kernel) rfl, aw1 9 (by decide +kernel) rfl, aw4 213 (by decide +kernel) rfl⟩, by decide +kernel⟩
theorem kv_X8_byHaze : Kv RX8 yX8_byHaze cX8_byHaze 14 (some .long) 4 := ⟨⟨aw5 128 (by decide +kernel) rfl, aw0 43 (by decide +kernel) rfl, aw1 9 (by decide +kernel) rfl, aw5 129 (by decide +kernel) rfl⟩, by decide +kernel⟩
theorem kv_X8_byteAt : Kv RX8 yX8_byteAt cX8_byteAt 2 (some .int) 1 := ⟨⟨aw4 171 (by decide +kernel) rfl, aw0 22 (by decide +kernel) rfl, aw1 9 (by decide +kernel) rfl, aw4 172 (by decide +kernel) rfl⟩, by decide +kernel⟩
theorem kv_X8_copies : Kv RX8 yX8_copies cX8_copies 4 none 2 := ⟨⟨aw5 77 (by decide +kernel) rfl, aw0 42 (by decide +kernel) rfl, aw1 9 (by decide +kernel) rfl, aw5 78 (by decide +kernel) rfl⟩, by decide +kernel⟩
theorem kv_X8_fails : Kv RX8 yX8_fails cX8_fails 2 none 1 := ⟨⟨aw4 179 (by decide +kernel) rfl, aw0 23 (by decide +kernel) rfl, aw1 9 (by decide +kernel) rfl, aw4 180 (by decide +kernel) rfl⟩, by decide +kernel⟩
theorem kv_X8_gatesOf : Kv RX8 yX8_gatesOf cX8_gatesOf 5 (some .int) 1 := ⟨⟨aw5 161 (by decide +kernel) rfl, aw0 45 (by decide +kernel) rfl, aw1 9 (by decide +kernel) rfl, aw5 162 (by decide +kernel) rfl⟩, by decide +kernel⟩
theorem kv_X8_goesIn : Kv RX8 yX8_goesIn cX8_goesIn 7 none 3 := ⟨⟨aw5 64 (by decide +kernel) rfl, aw0 40 (by decide +kernel) rfl, aw1 9 (by decide +kernel) rfl, aw5 65 (by decide +kernel) rfl⟩, by decide +kernel⟩
theorem kv_X8_hiresOn : Kv RX8 yX8_hiresOn cX8_hiresOn 6 none 4 := ⟨⟨aw5 43 (by decide +kernel) rfl, aw0 37 (by decide +kernel) rfl, aw1 9 (by decide +kernel) rfl, aw5 44 (by decide +kernel) rfl⟩, by decide +kernel⟩
theorem kv_X8_isAsSeen : Kv RX8 yX8_isAsSeen cX8_isAsSeen 5 (some .boolean) 1 := ⟨⟨aw5 153 (by decide +kernel) rfl, aw0 44 (by decide +kernel) rfl, aw1 9 (by decide +kernel) rfl, aw5 154 (by decide +kernel) rfl⟩, by decide +kernel⟩
theorem kv_X8_isHeardOn : Kv RX8 yX8_isHeardOn cX8_isHeardOn 5 (some .boolean) 2 := ⟨⟨aw4 208 (by decide +kernel) rfl, aw0 28 (by decide +kernel) rfl, aw1 9 (by decide +kernel) rfl, aw4 209 (by decide +kernel) rfl⟩, by decide +kernel⟩
theorem kv_X8_isKeeper : Kv RX8 yX8_isKeeper cX8_isKeeper 2 (some .boolean) 1 := ⟨⟨aw5 8 (by decide +kernel) rfl, aw0 34 (by decide +kernel) rfl, aw1 9 (by decide +kernel) rfl, aw5 9 (by decide +kernel) rfl⟩, by decide +kernel⟩
theorem kv_X8_isTaker : Kv RX8 yX8_isTaker cX8_isTaker 2 (some .boolean) 1 := ⟨⟨aw4 236 (by decide +kernel) rfl, aw0 32 (by decide +kernel) rfl, aw1 9 (by decide +kernel) rfl, aw4 237 (by decide +kernel) rfl⟩, by decide +kernel⟩
theorem kv_X8_lightOn : Kv RX8 yX8_lightOn cX8_lightOn 4 (some .int) 1 := ⟨⟨aw4 220 (by decide +kernel) rfl, aw0 31 (by decide +kernel) rfl, aw1 9 (by decide +kernel) rfl, aw4 221 (by decide +kernel) rfl⟩, by decide +kernel⟩
theorem kv_X8_nameHere : Kv RX8 yX8_nameHere cX8_nameHere 4 (some .int) 0 := ⟨⟨aw4 187 (by decide +kernel) rfl, aw0 25 (by decide +kernel) rfl, aw1 9 (by decide +kernel) rfl, aw4 188 (by decide +kernel) rfl⟩, by decide +kernel⟩
theorem kv_X8_nightOn : Kv RX8 yX8_nightOn cX8_nightOn 5 none 2 := ⟨⟨aw5 60 (by decide +kernel) rfl, aw0 39 (by decide +kernel) rfl, aw1 9 (by decide +kernel) rfl, aw5 61 (by decide +kernel) rfl⟩, by decide +kernel⟩
theorem kv_X8_nightsGo : Kv RX8 yX8_nightsGo cX8_nightsGo 4 (some .int) 2 := ⟨⟨aw5 73 (by decide +kernel) rfl, aw0 41 (by decide +kernel) rfl, aw1 9 (by decide +kernel) rfl, aw5 74 (by decide +kernel) rfl⟩, by decide +kernel⟩
theorem kv_X8_noiseOn : Kv RX8 yX8_noiseOn cX8_noiseOn 4 (some .int) 2 := ⟨⟨aw4 216 (by decide +kernel) rfl, aw0 30 (by decide +kernel) rfl, aw1 9 (by decide +kernel) rfl, aw4 217 (by decide +kernel) rfl⟩, by decide +kernel⟩
theorem kv_X8_number : Kv RX8 yX8_number cX8_number 4 (some .int) 2 := ⟨⟨aw4 196 (by decide +kernel) rfl, aw0 27 (by decide +kernel) rfl, aw1 9 (by decide +kernel) rfl, aw4 197 (by decide +kernel) rfl⟩, by decide +kernel⟩
theorem kv_X8_puts : Kv RX8 yX8_puts cX8_puts 6 (some .int) 4 := ⟨⟨aw5 21 (by decide +kernel) rfl, aw0 36 (by decide +kernel) rfl, aw1 9 (by decide +kernel) rfl, aw5 22 (by decide +kernel) rfl⟩, by decide +kernel⟩
theorem kv_X8_readLine : Kv RX8 yX8_readLine cX8_readLine 2 none 0 := ⟨⟨aw4 183 (by decide +kernel) rfl, aw0 24 (by decide +kernel) rfl, aw1 9 (by decide +kernel) rfl, aw4 184 (by decide +kernel) rfl⟩, by decide +kernel⟩
theorem kv_X8_readMore : Kv RX8 yX8_readMore cX8_readMore 3 none 1 := ⟨⟨aw4 192 (by decide +kernel) rfl, aw0 26 (by decide +kernel) rfl, aw1 9 (by decide +kernel) rfl, aw4 193 (by decide +kernel) rfl⟩, by decide +kernel⟩
theorem kv_X8_startCounts : Kv RX8 yX8_startCounts cX8_startCounts 1 none 0 := ⟨⟨aw5 56 (by decide +kernel) rfl, aw0 38 (by decide +kernel) rfl, aw1 9 (by decide +kernel) rfl, aw5 57 (by decide +kernel) rfl⟩, by decide +kernel⟩
theorem kv_X8_step : Kv RX8 yX8_step cX8_step 2 none 0 := ⟨⟨aw4 167 (by decide +kernel) rfl, aw0 21 (by decide +kernel) rfl, aw1 9 (by decide +kernel) rfl, aw4 168 (by decide +kernel) rfl⟩, by decide +kernel⟩
theorem kv_X8_takesOn : Kv RX8 yX8_takesOn cX8_takesOn 4 (some .int) 2 := ⟨⟨aw5 0 (by decide +kernel) rfl, aw0 33 (by decide +kernel) rfl, aw1 9 (by decide +kernel) rfl, aw5 1 (by decide +kernel) rfl⟩, by decide +kernel⟩
theorem kv_X8_worstAt : Kv RX8 yX8_worstAt cX8_worstAt 7 (some .int) 2 := ⟨⟨aw5 169 (by decide +kernel) rfl, aw0 46 (by decide +kernel) rfl, aw1 9 (by decide +kernel) rfl, aw5 170 (by decide +kernel) rfl⟩, by decide +kernel⟩
theorem kCopy_ok : kCopy := ⟨aw2 177 (by decide +kernel) rfl, aw2 176 (by decide +kernel) rfl, aw1 14 (by decide +kernel) rfl⟩
theorem kMin_ok : kMin := ⟨aw3 59 (by decide +kernel) rfl, aw1 15 (by decide +kernel) rfl, aw3 60 (by decide +kernel) rfl⟩
theorem kMax_ok : kMax := ⟨aw3 198 (by decide +kernel) rfl, aw1 15 (by decide +kernel) rfl, aw3 199 (by decide +kernel) rfl⟩
theorem k_0 : Cond.methodLink RX0 53 arraycopyName ∈ ALL := aw2 175 (by decide +kernel) rfl
theorem k_1 : Cond.fieldLink RX0 59 RX0 "TAKES_BY_KIND" "[I" ∈ ALL := aw3 6 (by decide +kernel) rfl
theorem k_2 : Cond.fieldLink RX0 62 RX0 "NOISE_BY_KIND" "[I" ∈ ALL := aw2 217 (by decide +kernel) rfl
theorem k_3 : Cond.methodLink RX0 65 yX0_placeOf ∈ ALL := aw2 209 (by decide +kernel) rfl
theorem k_4 : Cond.methodLink RX0 69 yX0_noise ∈ ALL := aw2 213 (by decide +kernel) rfl
theorem k_5 : Cond.methodLink RX0 86 Lib.Math.min.name ∈ ALL := aw3 58 (by decide +kernel) rfl
theorem k_6 : Cond.methodLink RX0 92 yX0_takes ∈ ALL := aw3 65 (by decide +kernel) rfl
theorem k_7 : Cond.methodLink RX0 83 yX0_fillBag ∈ ALL := aw3 61 (by decide +kernel) rfl
theorem k_8 : Cond.methodLink RX0 75 yX0_wouldBeCaught ∈ ALL := aw2 205 (by decide +kernel) rfl
theorem k_9 : Cond.methodLink RX0 79 yX0_seize ∈ ALL := aw3 54 (by decide +kernel) rfl
theorem k_10 : Cond.methodLink RX0 95 yX0_sum ∈ ALL := aw2 190 (by decide +kernel) rfl
theorem k_11 : Cond.constant RJ6 265 1431655765 ∈ ALL := aw3 87 (by decide +kernel) rfl
theorem k_12 : Cond.constant RJ6 266 858993459 ∈ ALL := aw3 88 (by decide +kernel) rfl
theorem k_13 : Cond.constant RJ6 267 252645135 ∈ ALL := aw3 89 (by decide +kernel) rfl
theorem k_14 : Cond.methodLink RX6 40 yX0_passNight ∈ ALL := aw3 83 (by decide +kernel) rfl
theorem k_15 : Cond.methodLink RX6 47 yJ6_bitCount_0f7a4 ∈ ALL := aw3 84 (by decide +kernel) rfl
theorem k_16 : Cond.methodLink RX1 31 arraycopyName ∈ ALL := aw3 221 (by decide +kernel) rfl
theorem k_17 : Cond.methodLink RX1 37 yX6_passOne ∈ ALL := aw3 222 (by decide +kernel) rfl
theorem k_18 : Cond.methodLink RX1 41 Lib.Math.max.name ∈ ALL := aw3 227 (by decide +kernel) rfl
theorem k_19 : Cond.methodLink RX2 20 yX2_lacks ∈ ALL := aw4 24 (by decide +kernel) rfl
theorem k_20 : Cond.methodLink RX2 24 yX2_isNothing ∈ ALL := aw4 36 (by decide +kernel) rfl
theorem k_21 : Cond.methodLink RX3 41 Lib.Math.max.name ∈ ALL := aw3 197 (by decide +kernel) rfl
theorem k_22 : Cond.methodLink RX3 23 yX3_latestNight ∈ ALL := aw3 193 (by decide +kernel) rfl
theorem k_23 : Cond.methodLink RX3 33 yX3_fitBehind ∈ ALL := aw3 200 (by decide +kernel) rfl
theorem k_24 : Cond.methodLink RX3 37 yX6_passOne ∈ ALL := aw3 204 (by decide +kernel) rfl
theorem k_25 : Cond.methodLink RX6 16 yX0_copyFrom ∈ ALL := aw3 74 (by decide +kernel) rfl
theorem k_26 : Cond.methodLink RX6 36 yX6_passOne ∈ ALL := aw3 79 (by decide +kernel) rfl
theorem k_27 : Cond.methodLink RX5 100 yX5_placeBehindAll ∈ ALL := aw2 62 (by decide +kernel) rfl
theorem k_28 : Cond.methodLink RX5 110 yX4_isBetween ∈ ALL := aw2 66 (by decide +kernel) rfl
theorem k_29 : Cond.methodLink RX5 66 yX5_refuse ∈ ALL := aw2 74 (by decide +kernel) rfl
theorem k_30 : Cond.methodLink RX5 113 yX5_takeFigures ∈ ALL := aw2 70 (by decide +kernel) rfl
theorem k_31 : Cond.methodLink RX5 120 yJ0_length_8abf5 ∈ ALL := aw2 93 (by decide +kernel) rfl
theorem k_32 : Cond.methodLink RX5 125 yJ0_charAt_5068e ∈ ALL := aw2 103 (by decide +kernel) rfl
theorem k_33 : Cond.methodLink RX5 33 yX5_readToken ∈ ALL := aw2 58 (by decide +kernel) rfl
theorem k_34 : Cond.methodLink RX5 73 yX5_readNumber ∈ ALL := aw2 145 (by decide +kernel) rfl
theorem k_35 : Cond.methodLink RX5 77 yX5_readSemicolonBehind ∈ ALL := aw2 149 (by decide +kernel) rfl
theorem k_36 : Cond.methodLink RX5 83 yX0_addTaker ∈ ALL := aw2 153 (by decide +kernel) rfl
theorem k_37 : Cond.methodLink RX5 89 yX0_addKeeper ∈ ALL := aw2 162 (by decide +kernel) rfl
theorem k_38 : Cond.methodLink RX5 48 yX5_isName ∈ ALL := aw2 89 (by decide +kernel) rfl
theorem k_39 : Cond.methodLink RX5 63 yX5_readGate ∈ ALL := aw2 167 (by decide +kernel) rfl
theorem k_40 : Cond.methodLink RX5 58 yX5_readKeeper ∈ ALL := aw2 158 (by decide +kernel) rfl
theorem k_41 : Cond.methodLink RX5 44 yX5_nameOfKind ∈ ALL := aw2 82 (by decide +kernel) rfl
theorem k_42 : Cond.methodLink RX5 52 yX5_readTaker ∈ ALL := aw2 141 (by decide +kernel) rfl
theorem k_43 : Cond.methodLink RX5 13 yX0_clear ∈ ALL := aw2 57 (by decide +kernel) rfl
theorem k_44 : Cond.methodLink RX5 40 yX5_readLine ∈ ALL := aw2 78 (by decide +kernel) rfl
theorem k_45 : Cond.methodLink RX7 68 yX7_isOutside ∈ ALL := aw2 38 (by decide +kernel) rfl
theorem k_46 : Cond.methodLink RX7 72 yX4_append ∈ ALL := aw2 41 (by decide +kernel) rfl
theorem k_47 : Cond.methodLink RX7 83 yX5_readLines ∈ ALL := aw2 53 (by decide +kernel) rfl
theorem k_48 : Cond.methodLink RX7 96 yX0_copyFrom ∈ ALL := aw2 171 (by decide +kernel) rfl
theorem k_49 : Cond.methodLink RX7 115 yX0_lightOfAll ∈ ALL := aw2 186 (by decide +kernel) rfl
theorem k_50 : Cond.methodLink RX7 119 yX0_bagsOfAll ∈ ALL := aw2 193 (by decide +kernel) rfl
theorem k_51 : Cond.methodLink RX7 122 yX0_heldBits ∈ ALL := aw2 197 (by decide +kernel) rfl
theorem k_52 : Cond.methodLink RX7 125 yX0_nextCaughtBits ∈ ALL := aw2 201 (by decide +kernel) rfl
theorem k_53 : Cond.methodLink RX7 128 yX7_isNoGate ∈ ALL := aw2 223 (by decide +kernel) rfl
theorem k_54 : Cond.methodLink RX7 138 yX0_takerBitsAt ∈ ALL := aw2 226 (by decide +kernel) rfl
theorem k_55 : Cond.methodLink RX7 142 yX0_keeperBitsAt ∈ ALL := aw2 230 (by decide +kernel) rfl
theorem k_56 : Cond.methodLink RX7 145 yX7_isNoTaker ∈ ALL := aw2 238 (by decide +kernel) rfl
theorem k_57 : Cond.methodLink RX7 160 yX0_takes ∈ ALL := aw3 2 (by decide +kernel) rfl
theorem k_58 : Cond.methodLink RX7 163 yX0_noise ∈ ALL := aw3 8 (by decide +kernel) rfl
theorem k_59 : Cond.methodLink RX7 166 yX7_isNoKeeper ∈ ALL := aw3 13 (by decide +kernel) rfl
theorem k_60 : Cond.methodLink RX7 178 yX0_placeOf ∈ ALL := aw3 17 (by decide +kernel) rfl
theorem k_61 : Cond.methodLink RX7 181 yX7_replace ∈ ALL := aw3 22 (by decide +kernel) rfl
theorem k_62 : Cond.methodLink RX7 185 yX0_addKeeper ∈ ALL := aw3 41 (by decide +kernel) rfl
theorem k_63 : Cond.methodLink RX7 188 yX0_passNight ∈ ALL := aw3 50 (by decide +kernel) rfl
theorem k_64 : Cond.methodLink RX7 192 yX6_begin ∈ ALL := aw3 70 (by decide +kernel) rfl
theorem k_65 : Cond.methodLink RX7 195 yX6_pass ∈ ALL := aw3 75 (by decide +kernel) rfl
theorem k_66 : Cond.methodLink RX7 211 yX7_isNoQuestion ∈ ALL := aw3 94 (by decide +kernel) rfl
theorem k_67 : Cond.methodLink RX7 215 yX6_passOne ∈ ALL := aw3 105 (by decide +kernel) rfl
theorem k_68 : Cond.methodLink RX7 219 yX6_wasCaught ∈ ALL := aw3 106 (by decide +kernel) rfl
theorem k_69 : Cond.methodLink RX7 222 yX7_fullestBag ∈ ALL := aw3 114 (by decide +kernel) rfl
theorem k_70 : Cond.methodLink RX7 308 yX7_commonDivisor ∈ ALL := aw3 155 (by decide +kernel) rfl
theorem k_71 : Cond.constantLong RX7 229 (-1) ∈ ALL := aw3 149 (by decide +kernel) rfl
theorem k_72 : Cond.methodLink RX7 226 yX7_isNoHaze ∈ ALL := aw3 146 (by decide +kernel) rfl
theorem k_73 : Cond.methodLink RX7 236 yX7_partOfFraction ∈ ALL := aw3 152 (by decide +kernel) rfl
theorem k_74 : Cond.methodLink RX7 231 yX0_wouldBeCaught ∈ ALL := aw3 150 (by decide +kernel) rfl
theorem k_75 : Cond.constantLong RX7 234 10 ∈ ALL := aw3 151 (by decide +kernel) rfl
theorem k_76 : Cond.methodLink RX7 240 yX7_weightOf ∈ ALL := aw3 162 (by decide +kernel) rfl
theorem k_77 : Cond.methodLink RX7 244 yX7_takenInHazes ∈ ALL := aw3 165 (by decide +kernel) rfl
theorem k_78 : Cond.methodLink RX7 248 yX3_add ∈ ALL := aw3 173 (by decide +kernel) rfl
theorem k_79 : Cond.methodLink RX7 304 yX3_fit ∈ ALL := aw3 189 (by decide +kernel) rfl
theorem k_80 : Cond.methodLink RX7 251 yX7_fittingBits ∈ ALL := aw3 185 (by decide +kernel) rfl
theorem k_81 : Cond.methodLink RX7 255 yX1_clear ∈ ALL := aw3 213 (by decide +kernel) rfl
theorem k_82 : Cond.methodLink RX7 262 yX1_leftAtWorst ∈ ALL := aw3 223 (by decide +kernel) rfl
theorem k_83 : Cond.methodLink RX7 258 yX1_add ∈ ALL := aw3 217 (by decide +kernel) rfl
theorem k_84 : Cond.constant RX7 265 1103515245 ∈ ALL := aw3 232 (by decide +kernel) rfl
theorem k_85 : Cond.methodLink RX7 266 yX7_isNoSheet ∈ ALL := aw4 5 (by decide +kernel) rfl
theorem k_86 : Cond.methodLink RX7 269 yX2_renew ∈ ALL := aw4 8 (by decide +kernel) rfl
theorem k_87 : Cond.methodLink RX7 273 yX2_isNothing ∈ ALL := aw4 16 (by decide +kernel) rfl
theorem k_88 : Cond.methodLink RX7 277 yX2_put ∈ ALL := aw4 20 (by decide +kernel) rfl
theorem k_89 : Cond.methodLink RX7 280 yX2_faultAs ∈ ALL := aw4 32 (by decide +kernel) rfl
theorem k_90 : Cond.methodLink RX7 283 yX2_lacks ∈ ALL := aw4 37 (by decide +kernel) rfl
theorem k_91 : Cond.methodLink RX7 289 yX7_sendTaker ∈ ALL := aw4 38 (by decide +kernel) rfl
theorem k_92 : Cond.methodLink RX7 298 yX0_growthOfAll ∈ ALL := aw4 50 (by decide +kernel) rfl
theorem k_93 : Cond.methodLink RX7 301 yX0_earsOfAll ∈ ALL := aw4 54 (by decide +kernel) rfl
theorem k_94 : Cond.constantLong RX8 44 127 ∈ ALL := aw4 153 (by decide +kernel) rfl
theorem k_95 : Cond.methodLink RX8 46 yX8_in ∈ ALL := aw4 154 (by decide +kernel) rfl
theorem k_96 : Cond.methodLink RX8 69 yX8_byteAt ∈ ALL := aw4 169 (by decide +kernel) rfl
theorem k_97 : Cond.constantLong RX8 76 97 ∈ ALL := aw4 173 (by decide +kernel) rfl
theorem k_98 : Cond.constantLong RX8 78 122 ∈ ALL := aw4 174 (by decide +kernel) rfl
theorem k_99 : Cond.constantLong RX8 80 48 ∈ ALL := aw4 175 (by decide +kernel) rfl
theorem k_100 : Cond.constantLong RX8 82 57 ∈ ALL := aw4 176 (by decide +kernel) rfl
theorem k_101 : Cond.methodLink RX8 84 yX8_fails ∈ ALL := aw4 177 (by decide +kernel) rfl
theorem k_102 : Cond.methodLink RX8 88 yX8_step ∈ ALL := aw4 165 (by decide +kernel) rfl
theorem k_103 : Cond.methodLink RX8 94 yX8_number ∈ ALL := aw4 194 (by decide +kernel) rfl
theorem k_104 : Cond.constantLong RX8 98 5 ∈ ALL := aw4 189 (by decide +kernel) rfl
theorem k_105 : Cond.methodLink RX8 103 yX8_nameHere ∈ ALL := aw4 185 (by decide +kernel) rfl
theorem k_106 : Cond.methodLink RX8 107 yX8_readMore ∈ ALL := aw4 190 (by decide +kernel) rfl
theorem k_107 : Cond.methodLink RX8 110 yX8_readLine ∈ ALL := aw4 181 (by decide +kernel) rfl
theorem k_108 : Cond.methodLink RX8 122 yX8_atOn ∈ ALL := aw4 210 (by decide +kernel) rfl
theorem k_109 : Cond.methodLink RX8 125 yX8_noiseOn ∈ ALL := aw4 214 (by decide +kernel) rfl
theorem k_110 : Cond.methodLink RX8 141 yX8_takesOn ∈ ALL := aw4 238 (by decide +kernel) rfl
theorem k_111 : Cond.methodLink RX8 137 yX8_isHeardOn ∈ ALL := aw4 206 (by decide +kernel) rfl
theorem k_112 : Cond.methodLink RX8 144 yX8_goesIn ∈ ALL := aw5 62 (by decide +kernel) rfl
theorem k_113 : Cond.methodLink RX8 148 yX8_lightOn ∈ ALL := aw4 218 (by decide +kernel) rfl
theorem k_114 : Cond.methodLink RX8 151 yX8_isGate ∈ ALL := aw4 226 (by decide +kernel) rfl
theorem k_115 : Cond.constantLong RX8 155 3 ∈ ALL := aw4 229 (by decide +kernel) rfl
theorem k_116 : Cond.methodLink RX8 157 yX8_isTaker ∈ ALL := aw4 234 (by decide +kernel) rfl
theorem k_117 : Cond.methodLink RX8 160 yX8_isKeeper ∈ ALL := aw5 6 (by decide +kernel) rfl
theorem k_118 : Cond.methodLink RX8 165 yX8_puts ∈ ALL := aw5 19 (by decide +kernel) rfl
theorem k_119 : Cond.constantLong RX8 163 999 ∈ ALL := aw5 18 (by decide +kernel) rfl
theorem k_120 : Cond.methodLink RX8 169 yX8_alters ∈ ALL := aw5 14 (by decide +kernel) rfl
theorem k_121 : Cond.constantLong RX8 173 9 ∈ ALL := aw5 27 (by decide +kernel) rfl
theorem k_122 : Cond.constantLong RX8 175 60 ∈ ALL := aw5 32 (by decide +kernel) rfl
theorem k_123 : Cond.methodLink RX8 177 yX8_hiresOn ∈ ALL := aw5 41 (by decide +kernel) rfl
theorem k_124 : Cond.constantLong RX8 181 30 ∈ ALL := aw5 53 (by decide +kernel) rfl
theorem k_125 : Cond.methodLink RX8 183 yX8_startCounts ∈ ALL := aw5 54 (by decide +kernel) rfl
theorem k_126 : Cond.methodLink RX8 186 yX8_nightOn ∈ ALL := aw5 58 (by decide +kernel) rfl
theorem k_127 : Cond.methodLink RX8 190 yX8_copies ∈ ALL := aw5 75 (by decide +kernel) rfl
theorem k_128 : Cond.constantLong RX8 197 4 ∈ ALL := aw5 70 (by decide +kernel) rfl
theorem k_129 : Cond.methodLink RX8 199 yX8_nightsGo ∈ ALL := aw5 71 (by decide +kernel) rfl
theorem k_130 : Cond.constant RX8 202 1000000 ∈ ALL := aw5 111 (by decide +kernel) rfl
theorem k_131 : Cond.methodLink RX8 205 yX8_lowest ∈ ALL := aw5 130 (by decide +kernel) rfl
theorem k_132 : Cond.constantLong RX8 203 10 ∈ ALL := aw5 124 (by decide +kernel) rfl
theorem k_133 : Cond.constantLong RX8 215 (-1) ∈ ALL := aw5 133 (by decide +kernel) rfl
theorem k_134 : Cond.constantLong RX8 209 8 ∈ ALL := aw5 125 (by decide +kernel) rfl
theorem k_135 : Cond.methodLink RX8 211 yX8_byHaze ∈ ALL := aw5 126 (by decide +kernel) rfl
theorem k_136 : Cond.constantLong RX8 217 20 ∈ ALL := aw5 142 (by decide +kernel) rfl
theorem k_137 : Cond.methodLink RX8 219 yX8_isAsSeen ∈ ALL := aw5 151 (by decide +kernel) rfl
theorem k_138 : Cond.methodLink RX8 222 yX8_gatesOf ∈ ALL := aw5 159 (by decide +kernel) rfl
theorem k_139 : Cond.methodLink RX8 225 yX8_worstAt ∈ ALL := aw5 167 (by decide +kernel) rfl
theorem k_140 : Cond.constant RX8 228 1103515245 ∈ ALL := aw5 175 (by decide +kernel) rfl
theorem k_141 : Cond.constantLong RX8 229 2 ∈ ALL := aw5 188 (by decide +kernel) rfl
theorem k_142 : Cond.fieldLink RX0 9 "EveningPoach$Estate" "light" "[I" ∈ ALL := aw1 35 (by decide +kernel) rfl
theorem k_143 : Cond.fieldLink RX0 13 "EveningPoach$Estate" "growth" "[I" ∈ ALL := aw1 40 (by decide +kernel) rfl
theorem k_144 : Cond.fieldLink RX0 16 "EveningPoach$Estate" "kindOf" "[I" ∈ ALL := aw1 43 (by decide +kernel) rfl
theorem k_145 : Cond.fieldLink RX0 19 "EveningPoach$Estate" "gateOf" "[I" ∈ ALL := aw1 45 (by decide +kernel) rfl
theorem k_146 : Cond.fieldLink RX0 22 "EveningPoach$Estate" "bag" "[I" ∈ ALL := aw1 47 (by decide +kernel) rfl
theorem k_147 : Cond.fieldLink RX0 25 "EveningPoach$Estate" "held" "[I" ∈ ALL := aw1 49 (by decide +kernel) rfl
theorem k_148 : Cond.fieldLink RX0 28 "EveningPoach$Estate" "start" "[I" ∈ ALL := aw1 51 (by decide +kernel) rfl
theorem k_149 : Cond.fieldLink RX0 31 "EveningPoach$Estate" "step" "[I" ∈ ALL := aw1 53 (by decide +kernel) rfl
theorem k_150 : Cond.fieldLink RX0 34 "EveningPoach$Estate" "ear" "[I" ∈ ALL := aw1 55 (by decide +kernel) rfl
theorem k_151 : Cond.fieldLink RX0 40 "EveningPoach$Estate" "takers" "I" ∈ ALL := aw1 57 (by decide +kernel) rfl
theorem k_152 : Cond.fieldLink RX0 44 "EveningPoach$Estate" "keepers" "I" ∈ ALL := aw1 60 (by decide +kernel) rfl
theorem k_153 : Cond.fieldLink RX0 47 "EveningPoach$Estate" "night" "I" ∈ ALL := aw1 63 (by decide +kernel) rfl
theorem k_154 : Cond.fieldLink RX0 50 "EveningPoach$Estate" "catches" "I" ∈ ALL := aw1 65 (by decide +kernel) rfl
theorem k_155 : Cond.fieldLink RX0 72 "EveningPoach$Estate" "latestCaughtBits" "I" ∈ ALL := aw1 68 (by decide +kernel) rfl
theorem k_156 : Cond.fieldLink RX1 15 "EveningPoach$Outlook" "light" "[[I" ∈ ALL := aw1 211 (by decide +kernel) rfl
theorem k_157 : Cond.fieldLink RX1 18 "EveningPoach$Outlook" "count" "I" ∈ ALL := aw1 212 (by decide +kernel) rfl
theorem k_158 : Cond.fieldLink RX1 22 "EveningPoach$Trial" "estate" "LEveningPoach$Estate;" ∈ ALL := aw1 109 (by decide +kernel) rfl
theorem k_159 : Cond.fieldLink RX1 28 "EveningPoach$Estate" "light" "[I" ∈ ALL := aw1 36 (by decide +kernel) rfl
theorem k_160 : Cond.fieldLink RX2 9 "EveningPoach$Sheet" "cells" "[I" ∈ ALL := aw1 227 (by decide +kernel) rfl
theorem k_161 : Cond.fieldLink RX2 13 "EveningPoach$Sheet" "lane" "I" ∈ ALL := aw1 231 (by decide +kernel) rfl
theorem k_162 : Cond.fieldLink RX2 17 "EveningPoach$Sheet" "size" "I" ∈ ALL := aw1 229 (by decide +kernel) rfl
theorem k_163 : Cond.fieldLink RX3 9 "EveningPoach$Sightings" "night" "[I" ∈ ALL := aw1 189 (by decide +kernel) rfl
theorem k_164 : Cond.fieldLink RX3 13 "EveningPoach$Sightings" "place" "[I" ∈ ALL := aw1 190 (by decide +kernel) rfl
theorem k_165 : Cond.fieldLink RX3 16 "EveningPoach$Sightings" "light" "[I" ∈ ALL := aw1 191 (by decide +kernel) rfl
theorem k_166 : Cond.fieldLink RX3 19 "EveningPoach$Sightings" "count" "I" ∈ ALL := aw1 192 (by decide +kernel) rfl
theorem k_167 : Cond.fieldLink RX3 27 "EveningPoach$Trial" "estate" "LEveningPoach$Estate;" ∈ ALL := aw1 108 (by decide +kernel) rfl
theorem k_168 : Cond.fieldLink RX3 47 "EveningPoach$Estate" "light" "[I" ∈ ALL := aw1 37 (by decide +kernel) rfl
theorem k_169 : Cond.fieldLink RX4 9 "EveningPoach$Tape" "bytes" "[B" ∈ ALL := aw1 139 (by decide +kernel) rfl
theorem k_170 : Cond.fieldLink RX4 13 "EveningPoach$Tape" "length" "I" ∈ ALL := aw1 141 (by decide +kernel) rfl
theorem k_171 : Cond.fieldLink RX5 7 "EveningPoach$TapeReader" "tape" "LEveningPoach$Tape;" ∈ ALL := aw1 156 (by decide +kernel) rfl
theorem k_172 : Cond.fieldLink RX5 18 "EveningPoach$TapeReader" "behind" "I" ∈ ALL := aw1 159 (by decide +kernel) rfl
theorem k_173 : Cond.fieldLink RX5 22 "EveningPoach$TapeReader" "gatesTold" "I" ∈ ALL := aw1 161 (by decide +kernel) rfl
theorem k_174 : Cond.fieldLink RX5 25 "EveningPoach$TapeReader" "fault" "I" ∈ ALL := aw1 162 (by decide +kernel) rfl
theorem k_175 : Cond.fieldLink RX5 28 "EveningPoach$TapeReader" "faultPlace" "I" ∈ ALL := aw1 164 (by decide +kernel) rfl
theorem k_176 : Cond.fieldLink RX5 37 "EveningPoach$TapeReader" "sort" "I" ∈ ALL := aw1 157 (by decide +kernel) rfl
theorem k_177 : Cond.fieldLink RX5 70 "EveningPoach$Estate" "takers" "I" ∈ ALL := aw1 58 (by decide +kernel) rfl
theorem k_178 : Cond.fieldLink RX5 80 "EveningPoach$TapeReader" "number" "I" ∈ ALL := aw1 160 (by decide +kernel) rfl
theorem k_179 : Cond.fieldLink RX5 86 "EveningPoach$Estate" "keepers" "I" ∈ ALL := aw1 61 (by decide +kernel) rfl
theorem k_180 : Cond.fieldLink RX5 93 "EveningPoach$Estate" "light" "[I" ∈ ALL := aw1 38 (by decide +kernel) rfl
theorem k_181 : Cond.fieldLink RX5 97 "EveningPoach$Estate" "growth" "[I" ∈ ALL := aw1 41 (by decide +kernel) rfl
theorem k_182 : Cond.fieldLink RX5 104 "EveningPoach$TapeReader" "first" "I" ∈ ALL := aw1 158 (by decide +kernel) rfl
theorem k_183 : Cond.fieldLink RX5 107 "EveningPoach$Tape" "length" "I" ∈ ALL := aw1 143 (by decide +kernel) rfl
theorem k_184 : Cond.fieldLink RX5 116 "EveningPoach$Tape" "bytes" "[B" ∈ ALL := aw1 140 (by decide +kernel) rfl
theorem k_185 : Cond.fieldLink RX6 10 "EveningPoach$Trial" "estate" "LEveningPoach$Estate;" ∈ ALL := aw1 107 (by decide +kernel) rfl
theorem k_186 : Cond.fieldLink RX6 20 "EveningPoach$Trial" "gone" "I" ∈ ALL := aw1 111 (by decide +kernel) rfl
theorem k_187 : Cond.fieldLink RX6 24 "EveningPoach$Trial" "taken" "I" ∈ ALL := aw1 112 (by decide +kernel) rfl
theorem k_188 : Cond.fieldLink RX6 27 "EveningPoach$Trial" "caughtTimes" "I" ∈ ALL := aw1 114 (by decide +kernel) rfl
theorem k_189 : Cond.fieldLink RX6 30 "EveningPoach$Trial" "caughtBits" "I" ∈ ALL := aw1 116 (by decide +kernel) rfl
theorem k_190 : Cond.fieldLink RX6 33 "EveningPoach$Trial" "firstCaught" "I" ∈ ALL := aw1 118 (by decide +kernel) rfl
theorem k_191 : Cond.fieldLink RX6 44 "EveningPoach$Estate" "latestCaughtBits" "I" ∈ ALL := aw1 67 (by decide +kernel) rfl
theorem k_192 : Cond.fieldLink RX7 10 "EveningPoach" "now" "LEveningPoach$Estate;" ∈ ALL := aw2 0 (by decide +kernel) rfl
theorem k_193 : Cond.fieldLink RX7 19 "EveningPoach" "trial" "LEveningPoach$Trial;" ∈ ALL := aw2 1 (by decide +kernel) rfl
theorem k_194 : Cond.fieldLink RX7 26 "EveningPoach" "tape" "LEveningPoach$Tape;" ∈ ALL := aw2 2 (by decide +kernel) rfl
theorem k_195 : Cond.fieldLink RX7 35 "EveningPoach" "reader" "LEveningPoach$TapeReader;" ∈ ALL := aw2 3 (by decide +kernel) rfl
theorem k_196 : Cond.fieldLink RX7 42 "EveningPoach" "seen" "LEveningPoach$Sightings;" ∈ ALL := aw2 4 (by decide +kernel) rfl
theorem k_197 : Cond.fieldLink RX7 49 "EveningPoach" "outlook" "LEveningPoach$Outlook;" ∈ ALL := aw2 5 (by decide +kernel) rfl
theorem k_198 : Cond.fieldLink RX7 53 "EveningPoach" "images" "[LEveningPoach$Estate;" ∈ ALL := aw2 6 (by decide +kernel) rfl
theorem k_199 : Cond.fieldLink RX7 57 "EveningPoach" "imageKept" "[Z" ∈ ALL := aw2 7 (by decide +kernel) rfl
theorem k_200 : Cond.fieldLink RX7 63 "EveningPoach" "sheets" "[LEveningPoach$Sheet;" ∈ ALL := aw2 8 (by decide +kernel) rfl
theorem k_201 : Cond.fieldLink RX7 76 "EveningPoach$Tape" "length" "I" ∈ ALL := aw1 142 (by decide +kernel) rfl
theorem k_202 : Cond.fieldLink RX7 80 "EveningPoach$Trial" "estate" "LEveningPoach$Estate;" ∈ ALL := aw1 110 (by decide +kernel) rfl
theorem k_203 : Cond.fieldLink RX7 87 "EveningPoach$TapeReader" "fault" "I" ∈ ALL := aw1 163 (by decide +kernel) rfl
theorem k_204 : Cond.fieldLink RX7 90 "EveningPoach" "textFault" "I" ∈ ALL := aw2 9 (by decide +kernel) rfl
theorem k_205 : Cond.fieldLink RX7 93 "EveningPoach$TapeReader" "faultPlace" "I" ∈ ALL := aw1 165 (by decide +kernel) rfl
theorem k_206 : Cond.fieldLink RX7 100 "EveningPoach$Sightings" "count" "I" ∈ ALL := aw1 193 (by decide +kernel) rfl
theorem k_207 : Cond.fieldLink RX7 103 "EveningPoach$Estate" "takers" "I" ∈ ALL := aw1 59 (by decide +kernel) rfl
theorem k_208 : Cond.fieldLink RX7 106 "EveningPoach$Estate" "keepers" "I" ∈ ALL := aw1 62 (by decide +kernel) rfl
theorem k_209 : Cond.fieldLink RX7 109 "EveningPoach$Estate" "night" "I" ∈ ALL := aw1 64 (by decide +kernel) rfl
theorem k_210 : Cond.fieldLink RX7 112 "EveningPoach$Estate" "catches" "I" ∈ ALL := aw1 66 (by decide +kernel) rfl
theorem k_211 : Cond.fieldLink RX7 131 "EveningPoach$Estate" "light" "[I" ∈ ALL := aw1 39 (by decide +kernel) rfl
theorem k_212 : Cond.fieldLink RX7 135 "EveningPoach$Estate" "growth" "[I" ∈ ALL := aw1 42 (by decide +kernel) rfl
theorem k_213 : Cond.fieldLink RX7 148 "EveningPoach$Estate" "kindOf" "[I" ∈ ALL := aw1 44 (by decide +kernel) rfl
theorem k_214 : Cond.fieldLink RX7 151 "EveningPoach$Estate" "gateOf" "[I" ∈ ALL := aw1 46 (by decide +kernel) rfl
theorem k_215 : Cond.fieldLink RX7 154 "EveningPoach$Estate" "bag" "[I" ∈ ALL := aw1 48 (by decide +kernel) rfl
theorem k_216 : Cond.fieldLink RX7 157 "EveningPoach$Estate" "held" "[I" ∈ ALL := aw1 50 (by decide +kernel) rfl
theorem k_217 : Cond.fieldLink RX7 169 "EveningPoach$Estate" "start" "[I" ∈ ALL := aw1 52 (by decide +kernel) rfl
theorem k_218 : Cond.fieldLink RX7 172 "EveningPoach$Estate" "step" "[I" ∈ ALL := aw1 54 (by decide +kernel) rfl
theorem k_219 : Cond.fieldLink RX7 175 "EveningPoach$Estate" "ear" "[I" ∈ ALL := aw1 56 (by decide +kernel) rfl
theorem k_220 : Cond.fieldLink RX7 199 "EveningPoach$Trial" "taken" "I" ∈ ALL := aw1 113 (by decide +kernel) rfl
theorem k_221 : Cond.fieldLink RX7 202 "EveningPoach$Trial" "caughtBits" "I" ∈ ALL := aw1 117 (by decide +kernel) rfl
theorem k_222 : Cond.fieldLink RX7 205 "EveningPoach$Trial" "caughtTimes" "I" ∈ ALL := aw1 115 (by decide +kernel) rfl
theorem k_223 : Cond.fieldLink RX7 208 "EveningPoach$Trial" "firstCaught" "I" ∈ ALL := aw1 119 (by decide +kernel) rfl
theorem k_224 : Cond.fieldLink RX7 261 "EveningPoach$Outlook" "count" "I" ∈ ALL := aw1 213 (by decide +kernel) rfl
theorem k_225 : Cond.fieldLink RX7 286 "EveningPoach$Sheet" "cells" "[I" ∈ ALL := aw1 228 (by decide +kernel) rfl
theorem k_226 : Cond.fieldLink RX7 292 "EveningPoach" "readFault" "I" ∈ ALL := aw2 10 (by decide +kernel) rfl
theorem k_227 : Cond.fieldLink RX7 295 "EveningPoach$Sheet" "size" "I" ∈ ALL := aw1 230 (by decide +kernel) rfl
theorem k_228 : Cond.fieldLink RX8 7 "EveningPoachModel" "state" "[I" ∈ ALL := aw4 64 (by decide +kernel) rfl
theorem k_229 : Cond.fieldLink RX8 13 "EveningPoachModel" "readPage" "[I" ∈ ALL := aw4 66 (by decide +kernel) rfl
theorem k_230 : Cond.fieldLink RX8 16 "EveningPoachModel" "tape" "[I" ∈ ALL := aw4 69 (by decide +kernel) rfl
theorem k_231 : Cond.fieldLink RX8 19 "EveningPoachModel" "ends" "[I" ∈ ALL := aw4 78 (by decide +kernel) rfl
theorem k_232 : Cond.fieldLink RX8 22 "EveningPoachModel" "letters" "[I" ∈ ALL := aw4 79 (by decide +kernel) rfl
theorem k_233 : Cond.fieldLink RX8 25 "EveningPoachModel" "seen" "[I" ∈ ALL := aw4 84 (by decide +kernel) rfl
theorem k_234 : Cond.fieldLink RX8 28 "EveningPoachModel" "lightBy" "[I" ∈ ALL := aw4 86 (by decide +kernel) rfl
theorem k_235 : Cond.fieldLink RX8 31 "EveningPoachModel" "isKept" "[Z" ∈ ALL := aw4 87 (by decide +kernel) rfl
theorem k_236 : Cond.fieldLink RX8 35 "EveningPoachModel" "lanes" "[I" ∈ ALL := aw4 88 (by decide +kernel) rfl
theorem k_237 : Cond.fieldLink RX8 38 "EveningPoachModel" "lengths" "[I" ∈ ALL := aw4 89 (by decide +kernel) rfl
theorem k_238 : Cond.fieldLink RX8 41 "EveningPoachModel" "cells" "[I" ∈ ALL := aw4 90 (by decide +kernel) rfl
theorem k_239 : Cond.fieldLink RX8 50 "EveningPoachModel" "taped" "I" ∈ ALL := aw4 70 (by decide +kernel) rfl
theorem k_240 : Cond.fieldLink RX8 54 "EveningPoachModel" "broken" "I" ∈ ALL := aw4 72 (by decide +kernel) rfl
theorem k_241 : Cond.fieldLink RX8 57 "EveningPoachModel" "here" "I" ∈ ALL := aw4 75 (by decide +kernel) rfl
theorem k_242 : Cond.fieldLink RX8 60 "EveningPoachModel" "brokenAt" "I" ∈ ALL := aw4 73 (by decide +kernel) rfl
theorem k_243 : Cond.fieldLink RX8 63 "EveningPoachModel" "token" "I" ∈ ALL := aw4 76 (by decide +kernel) rfl
theorem k_244 : Cond.fieldLink RX8 66 "EveningPoachModel" "spot" "I" ∈ ALL := aw4 74 (by decide +kernel) rfl
theorem k_245 : Cond.fieldLink RX8 73 "EveningPoachModel" "value" "I" ∈ ALL := aw4 77 (by decide +kernel) rfl
theorem k_246 : Cond.fieldLink RX8 91 "EveningPoachModel" "readTakers" "I" ∈ ALL := aw4 67 (by decide +kernel) rfl
theorem k_247 : Cond.fieldLink RX8 100 "EveningPoachModel" "toldGates" "I" ∈ ALL := aw4 68 (by decide +kernel) rfl
theorem k_248 : Cond.fieldLink RX8 113 "EveningPoachModel" "fault" "I" ∈ ALL := aw4 71 (by decide +kernel) rfl
theorem k_249 : Cond.fieldLink RX8 116 "EveningPoachModel" "takerMany" "I" ∈ ALL := aw4 65 (by decide +kernel) rfl
theorem k_250 : Cond.fieldLink RX8 119 "EveningPoachModel" "seenMany" "I" ∈ ALL := aw4 85 (by decide +kernel) rfl
theorem k_251 : Cond.fieldLink RX8 128 "EveningPoachModel" "taken" "I" ∈ ALL := aw4 80 (by decide +kernel) rfl
theorem k_252 : Cond.fieldLink RX8 131 "EveningPoachModel" "caughtOnes" "I" ∈ ALL := aw4 81 (by decide +kernel) rfl
theorem k_253 : Cond.fieldLink RX8 134 "EveningPoachModel" "times" "I" ∈ ALL := aw4 82 (by decide +kernel) rfl
theorem k_254 : Cond.fieldLink RX8 194 "EveningPoachModel" "firstTime" "I" ∈ ALL := aw4 83 (by decide +kernel) rfl
theorem k_255 : Cond.fieldLink RX8 231 "EveningPoachModel" "torn" "I" ∈ ALL := aw4 91 (by decide +kernel) rfl
theorem gr_RX0_9 {p : Program} {l : Launch} {e : Env} {R : Room} {s : State} {m : MethodId} {args : Array Value} {below : List Frame} {meth : Method} {c : Code} {H : Heap} {locs : List Loc} {Qs : State → Prop} {cc : ByteArray} {pc nL o : Nat} {ls : Array Slot} {rest : List Value} {g : Gt} {lay : Nat → Lay} {N : Nat} {M : Mem} {fs : List (Option Nat)} (C : Cx p s m args c cc nL RX0 g) (w : Wd g lay N s.heap M H locs) (ho : o < N) (hl : lay o = .inl (0, fs)) {x : Nat} (hf : fs[0]? = some (some x)) (hdg : decode cc pc = .ok (.getfield 9, 3)) (kk : W p l e R s m args below meth c H locs 0 0 Qs (F0 m (pc + 3) ls (.ref (ga g x) :: rest))) : W p l e R s m args below meth c H locs 0 0 Qs (F0 m pc ls (.ref (ga g o) :: rest)) := q_getr C w kc_X0 ho hl 0 hf (by decide) k_142 hdg kk
theorem gr_RX0_13 {p : Program} {l : Launch} {e : Env} {R : Room} {s : State} {m : MethodId} {args : Array Value} {below : List Frame} {meth : Method} {c : Code} {H : Heap} {locs : List Loc} {Qs : State → Prop} {cc : ByteArray} {pc nL o : Nat} {ls : Array Slot} {rest : List Value} {g : Gt} {lay : Nat → Lay} {N : Nat} {M : Mem} {fs : List (Option Nat)} (C : Cx p s m args c cc nL RX0 g) (w : Wd g lay N s.heap M H locs) (ho : o < N) (hl : lay o = .inl (0, fs)) {x : Nat} (hf : fs[1]? = some (some x)) (hdg : decode cc pc = .ok (.getfield 13, 3)) (kk : W p l e R s m args below meth c H locs 0 0 Qs (F0 m (pc + 3) ls (.ref (ga g x) :: rest))) : W p l e R s m args below meth c H locs 0 0 Qs (F0 m pc ls (.ref (ga g o) :: rest)) := q_getr C w kc_X0 ho hl 1 hf (by decide) k_143 hdg kk
theorem gr_RX0_16 {p : Program} {l : Launch} {e : Env} {R : Room} {s : State} {m : MethodId} {args : Array Value} {below : List Frame} {meth : Method} {c : Code} {H : Heap} {locs : List Loc} {Qs : State → Prop} {cc : ByteArray} {pc nL o : Nat} {ls : Array Slot} {rest : List Value} {g : Gt} {lay : Nat → Lay} {N : Nat} {M : Mem} {fs : List (Option Nat)} (C : Cx p s m args c cc nL RX0 g) (w : Wd g lay N s.heap M H locs) (ho : o < N) (hl : lay o = .inl (0, fs)) {x : Nat} (hf : fs[2]? = some (some x)) (hdg : decode cc pc = .ok (.getfield 16, 3)) (kk : W p l e R s m args below meth c H locs 0 0 Qs (F0 m (pc + 3) ls (.ref (ga g x) :: rest))) : W p l e R s m args below meth c H locs 0 0 Qs (F0 m pc ls (.ref (ga g o) :: rest)) := q_getr C w kc_X0 ho hl 2 hf (by decide) k_144 hdg kk
theorem gr_RX0_19 {p : Program} {l : Launch} {e : Env} {R : Room} {s : State} {m : MethodId} {args : Array Value} {below : List Frame} {meth : Method} {c : Code} {H : Heap} {locs : List Loc} {Qs : State → Prop} {cc : ByteArray} {pc nL o : Nat} {ls : Array Slot} {rest : List Value} {g : Gt} {lay : Nat → Lay} {N : Nat} {M : Mem} {fs : List (Option Nat)} (C : Cx p s m args c cc nL RX0 g) (w : Wd g lay N s.heap M H locs) (ho : o < N) (hl : lay o = .inl (0, fs)) {x : Nat} (hf : fs[3]? = some (some x)) (hdg : decode cc pc = .ok (.getfield 19, 3)) (kk : W p l e R s m args below meth c H locs 0 0 Qs (F0 m (pc + 3) ls (.ref (ga g x) :: rest))) : W p l e R s m args below meth c H locs 0 0 Qs (F0 m pc ls (.ref (ga g o) :: rest)) := q_getr C w kc_X0 ho hl 3 hf (by decide) k_145 hdg kk
theorem gr_RX0_22 {p : Program} {l : Launch} {e : Env} {R : Room} {s : State} {m : MethodId} {args : Array Value} {below : List Frame} {meth : Method} {c : Code} {H : Heap} {locs : List Loc} {Qs : State → Prop} {cc : ByteArray} {pc nL o : Nat} {ls : Array Slot} {rest : List Value} {g : Gt} {lay : Nat → Lay} {N : Nat} {M : Mem} {fs : List (Option Nat)} (C : Cx p s m args c cc nL RX0 g) (w : Wd g lay N s.heap M H locs) (ho : o < N) (hl : lay o = .inl (0, fs)) {x : Nat} (hf : fs[4]? = some (some x)) (hdg : decode cc pc = .ok (.getfield 22, 3)) (kk : W p l e R s m args below meth c H locs 0 0 Qs (F0 m (pc + 3) ls (.ref (ga g x) :: rest))) : W p l e R s m args below meth c H locs 0 0 Qs (F0 m pc ls (.ref (ga g o) :: rest)) := q_getr C w kc_X0 ho hl 4 hf (by decide) k_146 hdg kk
theorem gr_RX0_25 {p : Program} {l : Launch} {e : Env} {R : Room} {s : State} {m : MethodId} {args : Array Value} {below : List Frame} {meth : Method} {c : Code} {H : Heap} {locs : List Loc} {Qs : State → Prop} {cc : ByteArray} {pc nL o : Nat} {ls : Array Slot} {rest : List Value} {g : Gt} {lay : Nat → Lay} {N : Nat} {M : Mem} {fs : List (Option Nat)} (C : Cx p s m args c cc nL RX0 g) (w : Wd g lay N s.heap M H locs) (ho : o < N) (hl : lay o = .inl (0, fs)) {x : Nat} (hf : fs[5]? = some (some x)) (hdg : decode cc pc = .ok (.getfield 25, 3)) (kk : W p l e R s m args below meth c H locs 0 0 Qs (F0 m (pc + 3) ls (.ref (ga g x) :: rest))) : W p l e R s m args below meth c H locs 0 0 Qs (F0 m pc ls (.ref (ga g o) :: rest)) := q_getr C w kc_X0 ho hl 5 hf (by decide) k_147 hdg kk
theorem gr_RX0_28 {p : Program} {l : Launch} {e : Env} {R : Room} {s : State} {m : MethodId} {args : Array Value} {below : List Frame} {meth : Method} {c : Code} {H : Heap} {locs : List Loc} {Qs : State → Prop} {cc : ByteArray} {pc nL o : Nat} {ls : Array Slot} {rest : List Value} {g : Gt} {lay : Nat → Lay} {N : Nat} {M : Mem} {fs : List (Option Nat)} (C : Cx p s m args c cc nL RX0 g) (w : Wd g lay N s.heap M H locs) (ho : o < N) (hl : lay o = .inl (0, fs)) {x : Nat} (hf : fs[6]? = some (some x)) (hdg : decode cc pc = .ok (.getfield 28, 3)) (kk : W p l e R s m args below meth c H locs 0 0 Qs (F0 m (pc + 3) ls (.ref (ga g x) :: rest))) : W p l e R s m args below meth c H locs 0 0 Qs (F0 m pc ls (.ref (ga g o) :: rest)) := q_getr C w kc_X0 ho hl 6 hf (by decide) k_148 hdg kk
theorem gr_RX0_31 {p : Program} {l : Launch} {e : Env} {R : Room} {s : State} {m : MethodId} {args : Array Value} {below : List Frame} {meth : Method} {c : Code} {H : Heap} {locs : List Loc} {Qs : State → Prop} {cc : ByteArray} {pc nL o : Nat} {ls : Array Slot} {rest : List Value} {g : Gt} {lay : Nat → Lay} {N : Nat} {M : Mem} {fs : List (Option Nat)} (C : Cx p s m args c cc nL RX0 g) (w : Wd g lay N s.heap M H locs) (ho : o < N) (hl : lay o = .inl (0, fs)) {x : Nat} (hf : fs[7]? = some (some x)) (hdg : decode cc pc = .ok (.getfield 31, 3)) (kk : W p l e R s m args below meth c H locs 0 0 Qs (F0 m (pc + 3) ls (.ref (ga g x) :: rest))) : W p l e R s m args below meth c H locs 0 0 Qs (F0 m pc ls (.ref (ga g o) :: rest)) := q_getr C w kc_X0 ho hl 7 hf (by decide) k_149 hdg kk
theorem gr_RX0_34 {p : Program} {l : Launch} {e : Env} {R : Room} {s : State} {m : MethodId} {args : Array Value} {below : List Frame} {meth : Method} {c : Code} {H : Heap} {locs : List Loc} {Qs : State → Prop} {cc : ByteArray} {pc nL o : Nat} {ls : Array Slot} {rest : List Value} {g : Gt} {lay : Nat → Lay} {N : Nat} {M : Mem} {fs : List (Option Nat)} (C : Cx p s m args c cc nL RX0 g) (w : Wd g lay N s.heap M H locs) (ho : o < N) (hl : lay o = .inl (0, fs)) {x : Nat} (hf : fs[8]? = some (some x)) (hdg : decode cc pc = .ok (.getfield 34, 3)) (kk : W p l e R s m args below meth c H locs 0 0 Qs (F0 m (pc + 3) ls (.ref (ga g x) :: rest))) : W p l e R s m args below meth c H locs 0 0 Qs (F0 m pc ls (.ref (ga g o) :: rest)) := q_getr C w kc_X0 ho hl 8 hf (by decide) k_150 hdg kk
theorem gi_RX0_40 {p : Program} {l : Launch} {e : Env} {R : Room} {s : State} {m : MethodId} {args : Array Value} {below : List Frame} {meth : Method} {c : Code} {H : Heap} {locs : List Loc} {Qs : State → Prop} {cc : ByteArray} {pc nL o : Nat} {ls : Array Slot} {rest : List Value} {g : Gt} {lay : Nat → Lay} {N : Nat} {M : Mem} {fs : List (Option Nat)} (C : Cx p s m args c cc nL RX0 g) (w : Wd g lay N s.heap M H locs) (ho : o < N) (hl : lay o = .inl (0, fs)) (hf : fs[9]? = some none) (hdg : decode cc pc = .ok (.getfield 40, 3)) (kk : W p l e R s m args below meth c H locs 0 0 Qs (F0 m (pc + 3) ls (.int (M o 9) :: rest))) : W p l e R s m args below meth c H locs 0 0 Qs (F0 m pc ls (.ref (ga g o) :: rest)) := q_geti C w kc_X0 ho hl 9 hf (by decide) k_151 hdg kk
theorem pi_RX0_40 {p : Program} {l : Launch} {e : Env} {R : Room} {s : State} {m : MethodId} {args : Array Value} {below : List Frame} {meth : Method} {c : Code} {H : Heap} {locs : List Loc} {Qs : State → Prop} {cc : ByteArray} {pc nL o : Nat} {ls : Array Slot} {rest : List Value} {g : Gt} {lay : Nat → Lay} {N : Nat} {M : Mem} {fs : List (Option Nat)} (C : Cx p s m args c cc nL RX0 g) (w : Wd g lay N s.heap M H locs) (ho : o < N) (hl : lay o = .inl (0, fs)) {v : Int32} (hf : fs[9]? = some none) (hdg : decode cc pc = .ok (.putfield 40, 3)) (kk : ∀ (M1 : Mem) (H1 : Heap) (locs1 : List Loc), M1 = mu M o 9 v → Wd g lay N s.heap M1 H1 locs1 → W p l e R s m args below meth c H1 locs1 0 0 Qs (F0 m (pc + 3) ls rest)) : W p l e R s m args below meth c H locs 0 0 Qs (F0 m pc ls (.int v :: .ref (ga g o) :: rest)) := q_put C w kc_X0 ho hl 9 hf (by decide) k_151 rfl (by decide +kernel) hdg kk
theorem gi_RX0_44 {p : Program} {l : Launch} {e : Env} {R : Room} {s : State} {m : MethodId} {args : Array Value} {below : List Frame} {meth : Method} {c : Code} {H : Heap} {locs : List Loc} {Qs : State → Prop} {cc : ByteArray} {pc nL o : Nat} {ls : Array Slot} {rest : List Value} {g : Gt} {lay : Nat → Lay} {N : Nat} {M : Mem} {fs : List (Option Nat)} (C : Cx p s m args c cc nL RX0 g) (w : Wd g lay N s.heap M H locs) (ho : o < N) (hl : lay o = .inl (0, fs)) (hf : fs[10]? = some none) (hdg : decode cc pc = .ok (.getfield 44, 3)) (kk : W p l e R s m args below meth c H locs 0 0 Qs (F0 m (pc + 3) ls (.int (M o 10) :: rest))) : W p l e R s m args below meth c H locs 0 0 Qs (F0 m pc ls (.ref (ga g o) :: rest)) := q_geti C w kc_X0 ho hl 10 hf (by decide) k_152 hdg kk
theorem pi_RX0_44 {p : Program} {l : Launch} {e : Env} {R : Room} {s : State} {m : MethodId} {args : Array Value} {below : List Frame} {meth : Method} {c : Code} {H : Heap} {locs : List Loc} {Qs : State → Prop} {cc : ByteArray} {pc nL o : Nat} {ls : Array Slot} {rest : List Value} {g : Gt} {lay : Nat → Lay} {N : Nat} {M : Mem} {fs : List (Option Nat)} (C : Cx p s m args c cc nL RX0 g) (w : Wd g lay N s.heap M H locs) (ho : o < N) (hl : lay o = .inl (0, fs)) {v : Int32} (hf : fs[10]? = some none) (hdg : decode cc pc = .ok (.putfield 44, 3)) (kk : ∀ (M1 : Mem) (H1 : Heap) (locs1 : List Loc), M1 = mu M o 10 v → Wd g lay N s.heap M1 H1 locs1 → W p l e R s m args below meth c H1 locs1 0 0 Qs (F0 m (pc + 3) ls rest)) : W p l e R s m args below meth c H locs 0 0 Qs (F0 m pc ls (.int v :: .ref (ga g o) :: rest)) := q_put C w kc_X0 ho hl 10 hf (by decide) k_152 rfl (by decide +kernel) hdg kk
theorem gi_RX0_47 {p : Program} {l : Launch} {e : Env} {R : Room} {s : State} {m : MethodId} {args : Array Value} {below : List Frame} {meth : Method} {c : Code} {H : Heap} {locs : List Loc} {Qs : State → Prop} {cc : ByteArray} {pc nL o : Nat} {ls : Array Slot} {rest : List Value} {g : Gt} {lay : Nat → Lay} {N : Nat} {M : Mem} {fs : List (Option Nat)} (C : Cx p s m args c cc nL RX0 g) (w : Wd g lay N s.heap M H locs) (ho : o < N) (hl : lay o = .inl (0, fs)) (hf : fs[11]? = some none) (hdg : decode cc pc = .ok (.getfield 47, 3)) (kk : W p l e R s m args below meth c H locs 0 0 Qs (F0 m (pc + 3) ls (.int (M o 11) :: rest))) : W p l e R s m args below meth c H locs 0 0 Qs (F0 m pc ls (.ref (ga g o) :: rest)) := q_geti C w kc_X0 ho hl 11 hf (by decide) k_153 hdg kk
theorem pi_RX0_47 {p : Program} {l : Launch} {e : Env} {R : Room} {s : State} {m : MethodId} {args : Array Value} {below : List Frame} {meth : Method} {c : Code} {H : Heap} {locs : List Loc} {Qs : State → Prop} {cc : ByteArray} {pc nL o : Nat} {ls : Array Slot} {rest : List Value} {g : Gt} {lay : Nat → Lay} {N : Nat} {M : Mem} {fs : List (Option Nat)} (C : Cx p s m args c cc nL RX0 g) (w : Wd g lay N s.heap M H locs) (ho : o < N) (hl : lay o = .inl (0, fs)) {v : Int32} (hf : fs[11]? = some none) (hdg : decode cc pc = .ok (.putfield 47, 3)) (kk : ∀ (M1 : Mem) (H1 : Heap) (locs1 : List Loc), M1 = mu M o 11 v → Wd g lay N s.heap M1 H1 locs1 → W p l e R s m args below meth c H1 locs1 0 0 Qs (F0 m (pc + 3) ls rest)) : W p l e R s m args below meth c H locs 0 0 Qs (F0 m pc ls (.int v :: .ref (ga g o) :: rest)) := q_put C w kc_X0 ho hl 11 hf (by decide) k_153 rfl (by decide +kernel) hdg kk
theorem gi_RX0_50 {p : Program} {l : Launch} {e : Env} {R : Room} {s : State} {m : MethodId} {args : Array Value} {below : List Frame} {meth : Method} {c : Code} {H : Heap} {locs : List Loc} {Qs : State → Prop} {cc : ByteArray} {pc nL o : Nat} {ls : Array Slot} {rest : List Value} {g : Gt} {lay : Nat → Lay} {N : Nat} {M : Mem} {fs : List (Option Nat)} (C : Cx p s m args c cc nL RX0 g) (w : Wd g lay N s.heap M H locs) (ho : o < N) (hl : lay o = .inl (0, fs)) (hf : fs[12]? = some none) (hdg : decode cc pc = .ok (.getfield 50, 3)) (kk : W p l e R s m args below meth c H locs 0 0 Qs (F0 m (pc + 3) ls (.int (M o 12) :: rest))) : W p l e R s m args below meth c H locs 0 0 Qs (F0 m pc ls (.ref (ga g o) :: rest)) := q_geti C w kc_X0 ho hl 12 hf (by decide) k_154 hdg kk
theorem pi_RX0_50 {p : Program} {l : Launch} {e : Env} {R : Room} {s : State} {m : MethodId} {args : Array Value} {below : List Frame} {meth : Method} {c : Code} {H : Heap} {locs : List Loc} {Qs : State → Prop} {cc : ByteArray} {pc nL o : Nat} {ls : Array Slot} {rest : List Value} {g : Gt} {lay : Nat → Lay} {N : Nat} {M : Mem} {fs : List (Option Nat)} (C : Cx p s m args c cc nL RX0 g) (w : Wd g lay N s.heap M H locs) (ho : o < N) (hl : lay o = .inl (0, fs)) {v : Int32} (hf : fs[12]? = some none) (hdg : decode cc pc = .ok (.putfield 50, 3)) (kk : ∀ (M1 : Mem) (H1 : Heap) (locs1 : List Loc), M1 = mu M o 12 v → Wd g lay N s.heap M1 H1 locs1 → W p l e R s m args below meth c H1 locs1 0 0 Qs (F0 m (pc + 3) ls rest)) : W p l e R s m args below meth c H locs 0 0 Qs (F0 m pc ls (.int v :: .ref (ga g o) :: rest)) := q_put C w kc_X0 ho hl 12 hf (by decide) k_154 rfl (by decide +kernel) hdg kk
theorem gi_RX0_72 {p : Program} {l : Launch} {e : Env} {R : Room} {s : State} {m : MethodId} {args : Array Value} {below : List Frame} {meth : Method} {c : Code} {H : Heap} {locs : List Loc} {Qs : State → Prop} {cc : ByteArray} {pc nL o : Nat} {ls : Array Slot} {rest : List Value} {g : Gt} {lay : Nat → Lay} {N : Nat} {M : Mem} {fs : List (Option Nat)} (C : Cx p s m args c cc nL RX0 g) (w : Wd g lay N s.heap M H locs) (ho : o < N) (hl : lay o = .inl (0, fs)) (hf : fs[13]? = some none) (hdg : decode cc pc = .ok (.getfield 72, 3)) (kk : W p l e R s m args below meth c H locs 0 0 Qs (F0 m (pc + 3) ls (.int (M o 13) :: rest))) : W p l e R s m args below meth c H locs 0 0 Qs (F0 m pc ls (.ref (ga g o) :: rest)) := q_geti C w kc_X0 ho hl 13 hf (by decide) k_155 hdg kk
theorem pi_RX0_72 {p : Program} {l : Launch} {e : Env} {R : Room} {s : State} {m : MethodId} {args : Array Value} {below : List Frame} {meth : Method} {c : Code} {H : Heap} {locs : List Loc} {Qs : State → Prop} {cc : ByteArray} {pc nL o : Nat} {ls : Array Slot} {rest : List Value} {g : Gt} {lay : Nat → Lay} {N : Nat} {M : Mem} {fs : List (Option Nat)} (C : Cx p s m args c cc nL RX0 g) (w : Wd g lay N s.heap M H locs) (ho : o < N) (hl : lay o = .inl (0, fs)) {v : Int32} (hf : fs[13]? = some none) (hdg : decode cc pc = .ok (.putfield 72, 3)) (kk : ∀ (M1 : Mem) (H1 : Heap) (locs1 : List Loc), M1 = mu M o 13 v → Wd g lay N s.heap M1 H1 locs1 → W p l e R s m args below meth c H1 locs1 0 0 Qs (F0 m (pc + 3) ls rest)) : W p l e R s m args below meth c H locs 0 0 Qs (F0 m pc ls (.int v :: .ref (ga g o) :: rest)) := q_put C w kc_X0 ho hl 13 hf (by decide) k_155 rfl (by decide +kernel) hdg kk
theorem gr_RX1_15 {p : Program} {l : Launch} {e : Env} {R : Room} {s : State} {m : MethodId} {args : Array Value} {below : List Frame} {meth : Method} {c : Code} {H : Heap} {locs : List Loc} {Qs : State → Prop} {cc : ByteArray} {pc nL o : Nat} {ls : Array Slot} {rest : List Value} {g : Gt} {lay : Nat → Lay} {N : Nat} {M : Mem} {fs : List (Option Nat)} (C : Cx p s m args c cc nL RX1 g) (w : Wd g lay N s.heap M H locs) (ho : o < N) (hl : lay o = .inl (1, fs)) {x : Nat} (hf : fs[0]? = some (some x)) (hdg : decode cc pc = .ok (.getfield 15, 3)) (kk : W p l e R s m args below meth c H locs 0 0 Qs (F0 m (pc + 3) ls (.ref (ga g x) :: rest))) : W p l e R s m args below meth c H locs 0 0 Qs (F0 m pc ls (.ref (ga g o) :: rest)) := q_getr C w kc_X1 ho hl 0 hf (by decide) k_156 hdg kk
theorem gi_RX1_18 {p : Program} {l : Launch} {e : Env} {R : Room} {s : State} {m : MethodId} {args : Array Value} {below : List Frame} {meth : Method} {c : Code} {H : Heap} {locs : List Loc} {Qs : State → Prop} {cc : ByteArray} {pc nL o : Nat} {ls : Array Slot} {rest : List Value} {g : Gt} {lay : Nat → Lay} {N : Nat} {M : Mem} {fs : List (Option Nat)} (C : Cx p s m args c cc nL RX1 g) (w : Wd g lay N s.heap M H locs) (ho : o < N) (hl : lay o = .inl (1, fs)) (hf : fs[1]? = some none) (hdg : decode cc pc = .ok (.getfield 18, 3)) (kk : W p l e R s m args below meth c H locs 0 0 Qs (F0 m (pc + 3) ls (.int (M o 1) :: rest))) : W p l e R s m args below meth c H locs 0 0 Qs (F0 m pc ls (.ref (ga g o) :: rest)) := q_geti C w kc_X1 ho hl 1 hf (by decide) k_157 hdg kk
theorem pi_RX1_18 {p : Program} {l : Launch} {e : Env} {R : Room} {s : State} {m : MethodId} {args : Array Value} {below : List Frame} {meth : Method} {c : Code} {H : Heap} {locs : List Loc} {Qs : State → Prop} {cc : ByteArray} {pc nL o : Nat} {ls : Array Slot} {rest : List Value} {g : Gt} {lay : Nat → Lay} {N : Nat} {M : Mem} {fs : List (Option Nat)} (C : Cx p s m args c cc nL RX1 g) (w : Wd g lay N s.heap M H locs) (ho : o < N) (hl : lay o = .inl (1, fs)) {v : Int32} (hf : fs[1]? = some none) (hdg : decode cc pc = .ok (.putfield 18, 3)) (kk : ∀ (M1 : Mem) (H1 : Heap) (locs1 : List Loc), M1 = mu M o 1 v → Wd g lay N s.heap M1 H1 locs1 → W p l e R s m args below meth c H1 locs1 0 0 Qs (F0 m (pc + 3) ls rest)) : W p l e R s m args below meth c H locs 0 0 Qs (F0 m pc ls (.int v :: .ref (ga g o) :: rest)) := q_put C w kc_X1 ho hl 1 hf (by decide) k_157 rfl (by decide +kernel) hdg kk
theorem gr_RX1_22 {p : Program} {l : Launch} {e : Env} {R : Room} {s : State} {m : MethodId} {args : Array Value} {below : List Frame} {meth : Method} {c : Code} {H : Heap} {locs : List Loc} {Qs : State → Prop} {cc : ByteArray} {pc nL o : Nat} {ls : Array Slot} {rest : List Value} {g : Gt} {lay : Nat → Lay} {N : Nat} {M : Mem} {fs : List (Option Nat)} (C : Cx p s m args c cc nL RX1 g) (w : Wd g lay N s.heap M H locs) (ho : o < N) (hl : lay o = .inl (6, fs)) {x : Nat} (hf : fs[0]? = some (some x)) (hdg : decode cc pc = .ok (.getfield 22, 3)) (kk : W p l e R s m args below meth c H locs 0 0 Qs (F0 m (pc + 3) ls (.ref (ga g x) :: rest))) : W p l e R s m args below meth c H locs 0 0 Qs (F0 m pc ls (.ref (ga g o) :: rest)) := q_getr C w kc_X6 ho hl 0 hf (by decide) k_158 hdg kk
theorem gr_RX1_28 {p : Program} {l : Launch} {e : Env} {R : Room} {s : State} {m : MethodId} {args : Array Value} {below : List Frame} {meth : Method} {c : Code} {H : Heap} {locs : List Loc} {Qs : State → Prop} {cc : ByteArray} {pc nL o : Nat} {ls : Array Slot} {rest : List Value} {g : Gt} {lay : Nat → Lay} {N : Nat} {M : Mem} {fs : List (Option Nat)} (C : Cx p s m args c cc nL RX1 g) (w : Wd g lay N s.heap M H locs) (ho : o < N) (hl : lay o = .inl (0, fs)) {x : Nat} (hf : fs[0]? = some (some x)) (hdg : decode cc pc = .ok (.getfield 28, 3)) (kk : W p l e R s m args below meth c H locs 0 0 Qs (F0 m (pc + 3) ls (.ref (ga g x) :: rest))) : W p l e R s m args below meth c H locs 0 0 Qs (F0 m pc ls (.ref (ga g o) :: rest)) := q_getr C w kc_X0 ho hl 0 hf (by decide) k_159 hdg kk
theorem gr_RX2_9 {p : Program} {l : Launch} {e : Env} {R : Room} {s : State} {m : MethodId} {args : Array Value} {below : List Frame} {meth : Method} {c : Code} {H : Heap} {locs : List Loc} {Qs : State → Prop} {cc : ByteArray} {pc nL o : Nat} {ls : Array Slot} {rest : List Value} {g : Gt} {lay : Nat → Lay} {N : Nat} {M : Mem} {fs : List (Option Nat)} (C : Cx p s m args c cc nL RX2 g) (w : Wd g lay N s.heap M H locs) (ho : o < N) (hl : lay o = .inl (2, fs)) {x : Nat} (hf : fs[0]? = some (some x)) (hdg : decode cc pc = .ok (.getfield 9, 3)) (kk : W p l e R s m args below meth c H locs 0 0 Qs (F0 m (pc + 3) ls (.ref (ga g x) :: rest))) : W p l e R s m args below meth c H locs 0 0 Qs (F0 m pc ls (.ref (ga g o) :: rest)) := q_getr C w kc_X2 ho hl 0 hf (by decide) k_160 hdg kk
theorem gi_RX2_13 {p : Program} {l : Launch} {e : Env} {R : Room} {s : State} {m : MethodId} {args : Array Value} {below : List Frame} {meth : Method} {c : Code} {H : Heap} {locs : List Loc} {Qs : State → Prop} {cc : ByteArray} {pc nL o : Nat} {ls : Array Slot} {rest : List Value} {g : Gt} {lay : Nat → Lay} {N : Nat} {M : Mem} {fs : List (Option Nat)} (C : Cx p s m args c cc nL RX2 g) (w : Wd g lay N s.heap M H locs) (ho : o < N) (hl : lay o = .inl (2, fs)) (hf : fs[2]? = some none) (hdg : decode cc pc = .ok (.getfield 13, 3)) (kk : W p l e R s m args below meth c H locs 0 0 Qs (F0 m (pc + 3) ls (.int (M o 2) :: rest))) : W p l e R s m args below meth c H locs 0 0 Qs (F0 m pc ls (.ref (ga g o) :: rest)) := q_geti C w kc_X2 ho hl 2 hf (by decide) k_161 hdg kk
theorem pi_RX2_13 {p : Program} {l : Launch} {e : Env} {R : Room} {s : State} {m : MethodId} {args : Array Value} {below : List Frame} {meth : Method} {c : Code} {H : Heap} {locs : List Loc} {Qs : State → Prop} {cc : ByteArray} {pc nL o : Nat} {ls : Array Slot} {rest : List Value} {g : Gt} {lay : Nat → Lay} {N : Nat} {M : Mem} {fs : List (Option Nat)} (C : Cx p s m args c cc nL RX2 g) (w : Wd g lay N s.heap M H locs) (ho : o < N) (hl : lay o = .inl (2, fs)) {v : Int32} (hf : fs[2]? = some none) (hdg : decode cc pc = .ok (.putfield 13, 3)) (kk : ∀ (M1 : Mem) (H1 : Heap) (locs1 : List Loc), M1 = mu M o 2 v → Wd g lay N s.heap M1 H1 locs1 → W p l e R s m args below meth c H1 locs1 0 0 Qs (F0 m (pc + 3) ls rest)) : W p l e R s m args below meth c H locs 0 0 Qs (F0 m pc ls (.int v :: .ref (ga g o) :: rest)) := q_put C w kc_X2 ho hl 2 hf (by decide) k_161 rfl (by decide +kernel) hdg kk
theorem gi_RX2_17 {p : Program} {l : Launch} {e : Env} {R : Room} {s : State} {m : MethodId} {args : Array Value} {below : List Frame} {meth : Method} {c : Code} {H : Heap} {locs : List Loc} {Qs : State → Prop} {cc : ByteArray} {pc nL o : Nat} {ls : Array Slot} {rest : List Value} {g : Gt} {lay : Nat → Lay} {N : Nat} {M : Mem} {fs : List (Option Nat)} (C : Cx p s m args c cc nL RX2 g) (w : Wd g lay N s.heap M H locs) (ho : o < N) (hl : lay o = .inl (2, fs)) (hf : fs[1]? = some none) (hdg : decode cc pc = .ok (.getfield 17, 3)) (kk : W p l e R s m args below meth c H locs 0 0 Qs (F0 m (pc + 3) ls (.int (M o 1) :: rest))) : W p l e R s m args below meth c H locs 0 0 Qs (F0 m pc ls (.ref (ga g o) :: rest)) := q_geti C w kc_X2 ho hl 1 hf (by decide) k_162 hdg kk
theorem pi_RX2_17 {p : Program} {l : Launch} {e : Env} {R : Room} {s : State} {m : MethodId} {args : Array Value} {below : List Frame} {meth : Method} {c : Code} {H : Heap} {locs : List Loc} {Qs : State → Prop} {cc : ByteArray} {pc nL o : Nat} {ls : Array Slot} {rest : List Value} {g : Gt} {lay : Nat → Lay} {N : Nat} {M : Mem} {fs : List (Option Nat)} (C : Cx p s m args c cc nL RX2 g) (w : Wd g lay N s.heap M H locs) (ho : o < N) (hl : lay o = .inl (2, fs)) {v : Int32} (hf : fs[1]? = some none) (hdg : decode cc pc = .ok (.putfield 17, 3)) (kk : ∀ (M1 : Mem) (H1 : Heap) (locs1 : List Loc), M1 = mu M o 1 v → Wd g lay N s.heap M1 H1 locs1 → W p l e R s m args below meth c H1 locs1 0 0 Qs (F0 m (pc + 3) ls rest)) : W p l e R s m args below meth c H locs 0 0 Qs (F0 m pc ls (.int v :: .ref (ga g o) :: rest)) := q_put C w kc_X2 ho hl 1 hf (by decide) k_162 rfl (by decide +kernel) hdg kk
theorem gr_RX3_9 {p : Program} {l : Launch} {e : Env} {R : Room} {s : State} {m : MethodId} {args : Array Value} {below : List Frame} {meth : Method} {c : Code} {H : Heap} {locs : List Loc} {Qs : State → Prop} {cc : ByteArray} {pc nL o : Nat} {ls : Array Slot} {rest : List Value} {g : Gt} {lay : Nat → Lay} {N : Nat} {M : Mem} {fs : List (Option Nat)} (C : Cx p s m args c cc nL RX3 g) (w : Wd g lay N s.heap M H locs) (ho : o < N) (hl : lay o = .inl (3, fs)) {x : Nat} (hf : fs[0]? = some (some x)) (hdg : decode cc pc = .ok (.getfield 9, 3)) (kk : W p l e R s m args below meth c H locs 0 0 Qs (F0 m (pc + 3) ls (.ref (ga g x) :: rest))) : W p l e R s m args below meth c H locs 0 0 Qs (F0 m pc ls (.ref (ga g o) :: rest)) := q_getr C w kc_X3 ho hl 0 hf (by decide) k_163 hdg kk
theorem gr_RX3_13 {p : Program} {l : Launch} {e : Env} {R : Room} {s : State} {m : MethodId} {args : Array Value} {below : List Frame} {meth : Method} {c : Code} {H : Heap} {locs : List Loc} {Qs : State → Prop} {cc : ByteArray} {pc nL o : Nat} {ls : Array Slot} {rest : List Value} {g : Gt} {lay : Nat → Lay} {N : Nat} {M : Mem} {fs : List (Option Nat)} (C : Cx p s m args c cc nL RX3 g) (w : Wd g lay N s.heap M H locs) (ho : o < N) (hl : lay o = .inl (3, fs)) {x : Nat} (hf : fs[1]? = some (some x)) (hdg : decode cc pc = .ok (.getfield 13, 3)) (kk : W p l e R s m args below meth c H locs 0 0 Qs (F0 m (pc + 3) ls (.ref (ga g x) :: rest))) : W p l e R s m args below meth c H locs 0 0 Qs (F0 m pc ls (.ref (ga g o) :: rest)) := q_getr C w kc_X3 ho hl 1 hf (by decide) k_164 hdg kk
theorem gr_RX3_16 {p : Program} {l : Launch} {e : Env} {R : Room} {s : State} {m : MethodId} {args : Array Value} {below : List Frame} {meth : Method} {c : Code} {H : Heap} {locs : List Loc} {Qs : State → Prop} {cc : ByteArray} {pc nL o : Nat} {ls : Array Slot} {rest : List Value} {g : Gt} {lay : Nat → Lay} {N : Nat} {M : Mem} {fs : List (Option Nat)} (C : Cx p s m args c cc nL RX3 g) (w : Wd g lay N s.heap M H locs) (ho : o < N) (hl : lay o = .inl (3, fs)) {x : Nat} (hf : fs[2]? = some (some x)) (hdg : decode cc pc = .ok (.getfield 16, 3)) (kk : W p l e R s m args below meth c H locs 0 0 Qs (F0 m (pc + 3) ls (.ref (ga g x) :: rest))) : W p l e R s m args below meth c H locs 0 0 Qs (F0 m pc ls (.ref (ga g o) :: rest)) := q_getr C w kc_X3 ho hl 2 hf (by decide) k_165 hdg kk
theorem gi_RX3_19 {p : Program} {l : Launch} {e : Env} {R : Room} {s : State} {m : MethodId} {args : Array Value} {below : List Frame} {meth : Method} {c : Code} {H : Heap} {locs : List Loc} {Qs : State → Prop} {cc : ByteArray} {pc nL o : Nat} {ls : Array Slot} {rest : List Value} {g : Gt} {lay : Nat → Lay} {N : Nat} {M : Mem} {fs : List (Option Nat)} (C : Cx p s m args c cc nL RX3 g) (w : Wd g lay N s.heap M H locs) (ho : o < N) (hl : lay o = .inl (3, fs)) (hf : fs[3]? = some none) (hdg : decode cc pc = .ok (.getfield 19, 3)) (kk : W p l e R s m args below meth c H locs 0 0 Qs (F0 m (pc + 3) ls (.int (M o 3) :: rest))) : W p l e R s m args below meth c H locs 0 0 Qs (F0 m pc ls (.ref (ga g o) :: rest)) := q_geti C w kc_X3 ho hl 3 hf (by decide) k_166 hdg kk
theorem pi_RX3_19 {p : Program} {l : Launch} {e : Env} {R : Room} {s : State} {m : MethodId} {args : Array Value} {below : List Frame} {meth : Method} {c : Code} {H : Heap} {locs : List Loc} {Qs : State → Prop} {cc : ByteArray} {pc nL o : Nat} {ls : Array Slot} {rest : List Value} {g : Gt} {lay : Nat → Lay} {N : Nat} {M : Mem} {fs : List (Option Nat)} (C : Cx p s m args c cc nL RX3 g) (w : Wd g lay N s.heap M H locs) (ho : o < N) (hl : lay o = .inl (3, fs)) {v : Int32} (hf : fs[3]? = some none) (hdg : decode cc pc = .ok (.putfield 19, 3)) (kk : ∀ (M1 : Mem) (H1 : Heap) (locs1 : List Loc), M1 = mu M o 3 v → Wd g lay N s.heap M1 H1 locs1 → W p l e R s m args below meth c H1 locs1 0 0 Qs (F0 m (pc + 3) ls rest)) : W p l e R s m args below meth c H locs 0 0 Qs (F0 m pc ls (.int v :: .ref (ga g o) :: rest)) := q_put C w kc_X3 ho hl 3 hf (by decide) k_166 rfl (by decide +kernel) hdg kk
theorem gr_RX3_27 {p : Program} {l : Launch} {e : Env} {R : Room} {s : State} {m : MethodId} {args : Array Value} {below : List Frame} {meth : Method} {c : Code} {H : Heap} {locs : List Loc} {Qs : State → Prop} {cc : ByteArray} {pc nL o : Nat} {ls : Array Slot} {rest : List Value} {g : Gt} {lay : Nat → Lay} {N : Nat} {M : Mem} {fs : List (Option Nat)} (C : Cx p s m args c cc nL RX3 g) (w : Wd g lay N s.heap M H locs) (ho : o < N) (hl : lay o = .inl (6, fs)) {x : Nat} (hf : fs[0]? = some (some x)) (hdg : decode cc pc = .ok (.getfield 27, 3)) (kk : W p l e R s m args below meth c H locs 0 0 Qs (F0 m (pc + 3) ls (.ref (ga g x) :: rest))) : W p l e R s m args below meth c H locs 0 0 Qs (F0 m pc ls (.ref (ga g o) :: rest)) := q_getr C w kc_X6 ho hl 0 hf (by decide) k_167 hdg kk
theorem gr_RX3_47 {p : Program} {l : Launch} {e : Env} {R : Room} {s : State} {m : MethodId} {args : Array Value} {below : List Frame} {meth : Method} {c : Code} {H : Heap} {locs : List Loc} {Qs : State → Prop} {cc : ByteArray} {pc nL o : Nat} {ls : Array Slot} {rest : List Value} {g : Gt} {lay : Nat → Lay} {N : Nat} {M : Mem} {fs : List (Option Nat)} (C : Cx p s m args c cc nL RX3 g) (w : Wd g lay N s.heap M H locs) (ho : o < N) (hl : lay o = .inl (0, fs)) {x : Nat} (hf : fs[0]? = some (some x)) (hdg : decode cc pc = .ok (.getfield 47, 3)) (kk : W p l e R s m args below meth c H locs 0 0 Qs (F0 m (pc + 3) ls (.ref (ga g x) :: rest))) : W p l e R s m args below meth c H locs 0 0 Qs (F0 m pc ls (.ref (ga g o) :: rest)) := q_getr C w kc_X0 ho hl 0 hf (by decide) k_168 hdg kk
theorem gr_RX4_9 {p : Program} {l : Launch} {e : Env} {R : Room} {s : State} {m : MethodId} {args : Array Value} {below : List Frame} {meth : Method} {c : Code} {H : Heap} {locs : List Loc} {Qs : State → Prop} {cc : ByteArray} {pc nL o : Nat} {ls : Array Slot} {rest : List Value} {g : Gt} {lay : Nat → Lay} {N : Nat} {M : Mem} {fs : List (Option Nat)} (C : Cx p s m args c cc nL RX4 g) (w : Wd g lay N s.heap M H locs) (ho : o < N) (hl : lay o = .inl (4, fs)) {x : Nat} (hf : fs[0]? = some (some x)) (hdg : decode cc pc = .ok (.getfield 9, 3)) (kk : W p l e R s m args below meth c H locs 0 0 Qs (F0 m (pc + 3) ls (.ref (ga g x) :: rest))) : W p l e R s m args below meth c H locs 0 0 Qs (F0 m pc ls (.ref (ga g o) :: rest)) := q_getr C w kc_X4 ho hl 0 hf (by decide) k_169 hdg kk
theorem gi_RX4_13 {p : Program} {l : Launch} {e : Env} {R : Room} {s : State} {m : MethodId} {args : Array Value} {below : List Frame} {meth : Method} {c : Code} {H : Heap} {locs : List Loc} {Qs : State → Prop} {cc : ByteArray} {pc nL o : Nat} {ls : Array Slot} {rest : List Value} {g : Gt} {lay : Nat → Lay} {N : Nat} {M : Mem} {fs : List (Option Nat)} (C : Cx p s m args c cc nL RX4 g) (w : Wd g lay N s.heap M H locs) (ho : o < N) (hl : lay o = .inl (4, fs)) (hf : fs[1]? = some none) (hdg : decode cc pc = .ok (.getfield 13, 3)) (kk : W p l e R s m args below meth c H locs 0 0 Qs (F0 m (pc + 3) ls (.int (M o 1) :: rest))) : W p l e R s m args below meth c H locs 0 0 Qs (F0 m pc ls (.ref (ga g o) :: rest)) := q_geti C w kc_X4 ho hl 1 hf (by decide) k_170 hdg kk
theorem pi_RX4_13 {p : Program} {l : Launch} {e : Env} {R : Room} {s : State} {m : MethodId} {args : Array Value} {below : List Frame} {meth : Method} {c : Code} {H : Heap} {locs : List Loc} {Qs : State → Prop} {cc : ByteArray} {pc nL o : Nat} {ls : Array Slot} {rest : List Value} {g : Gt} {lay : Nat → Lay} {N : Nat} {M : Mem} {fs : List (Option Nat)} (C : Cx p s m args c cc nL RX4 g) (w : Wd g lay N s.heap M H locs) (ho : o < N) (hl : lay o = .inl (4, fs)) {v : Int32} (hf : fs[1]? = some none) (hdg : decode cc pc = .ok (.putfield 13, 3)) (kk : ∀ (M1 : Mem) (H1 : Heap) (locs1 : List Loc), M1 = mu M o 1 v → Wd g lay N s.heap M1 H1 locs1 → W p l e R s m args below meth c H1 locs1 0 0 Qs (F0 m (pc + 3) ls rest)) : W p l e R s m args below meth c H locs 0 0 Qs (F0 m pc ls (.int v :: .ref (ga g o) :: rest)) := q_put C w kc_X4 ho hl 1 hf (by decide) k_170 rfl (by decide +kernel) hdg kk
theorem gr_RX5_7 {p : Program} {l : Launch} {e : Env} {R : Room} {s : State} {m : MethodId} {args : Array Value} {below : List Frame} {meth : Method} {c : Code} {H : Heap} {locs : List Loc} {Qs : State → Prop} {cc : ByteArray} {pc nL o : Nat} {ls : Array Slot} {rest : List Value} {g : Gt} {lay : Nat → Lay} {N : Nat} {M : Mem} {fs : List (Option Nat)} (C : Cx p s m args c cc nL RX5 g) (w : Wd g lay N s.heap M H locs) (ho : o < N) (hl : lay o = .inl (5, fs)) {x : Nat} (hf : fs[0]? = some (some x)) (hdg : decode cc pc = .ok (.getfield 7, 3)) (kk : W p l e R s m args below meth c H locs 0 0 Qs (F0 m (pc + 3) ls (.ref (ga g x) :: rest))) : W p l e R s m args below meth c H locs 0 0 Qs (F0 m pc ls (.ref (ga g o) :: rest)) := q_getr C w kc_X5 ho hl 0 hf (by decide) k_171 hdg kk
theorem gi_RX5_18 {p : Program} {l : Launch} {e : Env} {R : Room} {s : State} {m : MethodId} {args : Array Value} {below : List Frame} {meth : Method} {c : Code} {H : Heap} {locs : List Loc} {Qs : State → Prop} {cc : ByteArray} {pc nL o : Nat} {ls : Array Slot} {rest : List Value} {g : Gt} {lay : Nat → Lay} {N : Nat} {M : Mem} {fs : List (Option Nat)} (C : Cx p s m args c cc nL RX5 g) (w : Wd g lay N s.heap M H locs) (ho : o < N) (hl : lay o = .inl (5, fs)) (hf : fs[3]? = some none) (hdg : decode cc pc = .ok (.getfield 18, 3)) (kk : W p l e R s m args below meth c H locs 0 0 Qs (F0 m (pc + 3) ls (.int (M o 3) :: rest))) : W p l e R s m args below meth c H locs 0 0 Qs (F0 m pc ls (.ref (ga g o) :: rest)) := q_geti C w kc_X5 ho hl 3 hf (by decide) k_172 hdg kk
theorem pi_RX5_18 {p : Program} {l : Launch} {e : Env} {R : Room} {s : State} {m : MethodId} {args : Array Value} {below : List Frame} {meth : Method} {c : Code} {H : Heap} {locs : List Loc} {Qs : State → Prop} {cc : ByteArray} {pc nL o : Nat} {ls : Array Slot} {rest : List Value} {g : Gt} {lay : Nat → Lay} {N : Nat} {M : Mem} {fs : List (Option Nat)} (C : Cx p s m args c cc nL RX5 g) (w : Wd g lay N s.heap M H locs) (ho : o < N) (hl : lay o = .inl (5, fs)) {v : Int32} (hf : fs[3]? = some none) (hdg : decode cc pc = .ok (.putfield 18, 3)) (kk : ∀ (M1 : Mem) (H1 : Heap) (locs1 : List Loc), M1 = mu M o 3 v → Wd g lay N s.heap M1 H1 locs1 → W p l e R s m args below meth c H1 locs1 0 0 Qs (F0 m (pc + 3) ls rest)) : W p l e R s m args below meth c H locs 0 0 Qs (F0 m pc ls (.int v :: .ref (ga g o) :: rest)) := q_put C w kc_X5 ho hl 3 hf (by decide) k_172 rfl (by decide +kernel) hdg kk
theorem gi_RX5_22 {p : Program} {l : Launch} {e : Env} {R : Room} {s : State} {m : MethodId} {args : Array Value} {below : List Frame} {meth : Method} {c : Code} {H : Heap} {locs : List Loc} {Qs : State → Prop} {cc : ByteArray} {pc nL o : Nat} {ls : Array Slot} {rest : List Value} {g : Gt} {lay : Nat → Lay} {N : Nat} {M : Mem} {fs : List (Option Nat)} (C : Cx p s m args c cc nL RX5 g) (w : Wd g lay N s.heap M H locs) (ho : o < N) (hl : lay o = .inl (5, fs)) (hf : fs[5]? = some none) (hdg : decode cc pc = .ok (.getfield 22, 3)) (kk : W p l e R s m args below meth c H locs 0 0 Qs (F0 m (pc + 3) ls (.int (M o 5) :: rest))) : W p l e R s m args below meth c H locs 0 0 Qs (F0 m pc ls (.ref (ga g o) :: rest)) := q_geti C w kc_X5 ho hl 5 hf (by decide) k_173 hdg kk
theorem pi_RX5_22 {p : Program} {l : Launch} {e : Env} {R : Room} {s : State} {m : MethodId} {args : Array Value} {below : List Frame} {meth : Method} {c : Code} {H : Heap} {locs : List Loc} {Qs : State → Prop} {cc : ByteArray} {pc nL o : Nat} {ls : Array Slot} {rest : List Value} {g : Gt} {lay : Nat → Lay} {N : Nat} {M : Mem} {fs : List (Option Nat)} (C : Cx p s m args c cc nL RX5 g) (w : Wd g lay N s.heap M H locs) (ho : o < N) (hl : lay o = .inl (5, fs)) {v : Int32} (hf : fs[5]? = some none) (hdg : decode cc pc = .ok (.putfield 22, 3)) (kk : ∀ (M1 : Mem) (H1 : Heap) (locs1 : List Loc), M1 = mu M o 5 v → Wd g lay N s.heap M1 H1 locs1 → W p l e R s m args below meth c H1 locs1 0 0 Qs (F0 m (pc + 3) ls rest)) : W p l e R s m args below meth c H locs 0 0 Qs (F0 m pc ls (.int v :: .ref (ga g o) :: rest)) := q_put C w kc_X5 ho hl 5 hf (by decide) k_173 rfl (by decide +kernel) hdg kk
theorem gi_RX5_25 {p : Program} {l : Launch} {e : Env} {R : Room} {s : State} {m : MethodId} {args : Array Value} {below : List Frame} {meth : Method} {c : Code} {H : Heap} {locs : List Loc} {Qs : State → Prop} {cc : ByteArray} {pc nL o : Nat} {ls : Array Slot} {rest : List Value} {g : Gt} {lay : Nat → Lay} {N : Nat} {M : Mem} {fs : List (Option Nat)} (C : Cx p s m args c cc nL RX5 g) (w : Wd g lay N s.heap M H locs) (ho : o < N) (hl : lay o = .inl (5, fs)) (hf : fs[6]? = some none) (hdg : decode cc pc = .ok (.getfield 25, 3)) (kk : W p l e R s m args below meth c H locs 0 0 Qs (F0 m (pc + 3) ls (.int (M o 6) :: rest))) : W p l e R s m args below meth c H locs 0 0 Qs (F0 m pc ls (.ref (ga g o) :: rest)) := q_geti C w kc_X5 ho hl 6 hf (by decide) k_174 hdg kk
theorem pi_RX5_25 {p : Program} {l : Launch} {e : Env} {R : Room} {s : State} {m : MethodId} {args : Array Value} {below : List Frame} {meth : Method} {c : Code} {H : Heap} {locs : List Loc} {Qs : State → Prop} {cc : ByteArray} {pc nL o : Nat} {ls : Array Slot} {rest : List Value} {g : Gt} {lay : Nat → Lay} {N : Nat} {M : Mem} {fs : List (Option Nat)} (C : Cx p s m args c cc nL RX5 g) (w : Wd g lay N s.heap M H locs) (ho : o < N) (hl : lay o = .inl (5, fs)) {v : Int32} (hf : fs[6]? = some none) (hdg : decode cc pc = .ok (.putfield 25, 3)) (kk : ∀ (M1 : Mem) (H1 : Heap) (locs1 : List Loc), M1 = mu M o 6 v → Wd g lay N s.heap M1 H1 locs1 → W p l e R s m args below meth c H1 locs1 0 0 Qs (F0 m (pc + 3) ls rest)) : W p l e R s m args below meth c H locs 0 0 Qs (F0 m pc ls (.int v :: .ref (ga g o) :: rest)) := q_put C w kc_X5 ho hl 6 hf (by decide) k_174 rfl (by decide +kernel) hdg kk
theorem gi_RX5_28 {p : Program} {l : Launch} {e : Env} {R : Room} {s : State} {m : MethodId} {args : Array Value} {below : List Frame} {meth : Method} {c : Code} {H : Heap} {locs : List Loc} {Qs : State → Prop} {cc : ByteArray} {pc nL o : Nat} {ls : Array Slot} {rest : List Value} {g : Gt} {lay : Nat → Lay} {N : Nat} {M : Mem} {fs : List (Option Nat)} (C : Cx p s m args c cc nL RX5 g) (w : Wd g lay N s.heap M H locs) (ho : o < N) (hl : lay o = .inl (5, fs)) (hf : fs[7]? = some none) (hdg : decode cc pc = .ok (.getfield 28, 3)) (kk : W p l e R s m args below meth c H locs 0 0 Qs (F0 m (pc + 3) ls (.int (M o 7) :: rest))) : W p l e R s m args below meth c H locs 0 0 Qs (F0 m pc ls (.ref (ga g o) :: rest)) := q_geti C w kc_X5 ho hl 7 hf (by decide) k_175 hdg kk
theorem pi_RX5_28 {p : Program} {l : Launch} {e : Env} {R : Room} {s : State} {m : MethodId} {args : Array Value} {below : List Frame} {meth : Method} {c : Code} {H : Heap} {locs : List Loc} {Qs : State → Prop} {cc : ByteArray} {pc nL o : Nat} {ls : Array Slot} {rest : List Value} {g : Gt} {lay : Nat → Lay} {N : Nat} {M : Mem} {fs : List (Option Nat)} (C : Cx p s m args c cc nL RX5 g) (w : Wd g lay N s.heap M H locs) (ho : o < N) (hl : lay o = .inl (5, fs)) {v : Int32} (hf : fs[7]? = some none) (hdg : decode cc pc = .ok (.putfield 28, 3)) (kk : ∀ (M1 : Mem) (H1 : Heap) (locs1 : List Loc), M1 = mu M o 7 v → Wd g lay N s.heap M1 H1 locs1 → W p l e R s m args below meth c H1 locs1 0 0 Qs (F0 m (pc + 3) ls rest)) : W p l e R s m args below meth c H locs 0 0 Qs (F0 m pc ls (.int v :: .ref (ga g o) :: rest)) := q_put C w kc_X5 ho hl 7 hf (by decide) k_175 rfl (by decide +kernel) hdg kk
theorem gi_RX5_37 {p : Program} {l : Launch} {e : Env} {R : Room} {s : State} {m : MethodId} {args : Array Value} {below : List Frame} {meth : Method} {c : Code} {H : Heap} {locs : List Loc} {Qs : State → Prop} {cc : ByteArray} {pc nL o : Nat} {ls : Array Slot} {rest : List Value} {g : Gt} {lay : Nat → Lay} {N : Nat} {M : Mem} {fs : List (Option Nat)} (C : Cx p s m args c cc nL RX5 g) (w : Wd g lay N s.heap M H locs) (ho : o < N) (hl : lay o = .inl (5, fs)) (hf : fs[1]? = some none) (hdg : decode cc pc = .ok (.getfield 37, 3)) (kk : W p l e R s m args below meth c H locs 0 0 Qs (F0 m (pc + 3) ls (.int (M o 1) :: rest))) : W p l e R s m args below meth c H locs 0 0 Qs (F0 m pc ls (.ref (ga g o) :: rest)) := q_geti C w kc_X5 ho hl 1 hf (by decide) k_176 hdg kk
theorem pi_RX5_37 {p : Program} {l : Launch} {e : Env} {R : Room} {s : State} {m : MethodId} {args : Array Value} {below : List Frame} {meth : Method} {c : Code} {H : Heap} {locs : List Loc} {Qs : State → Prop} {cc : ByteArray} {pc nL o : Nat} {ls : Array Slot} {rest : List Value} {g : Gt} {lay : Nat → Lay} {N : Nat} {M : Mem} {fs : List (Option Nat)} (C : Cx p s m args c cc nL RX5 g) (w : Wd g lay N s.heap M H locs) (ho : o < N) (hl : lay o = .inl (5, fs)) {v : Int32} (hf : fs[1]? = some none) (hdg : decode cc pc = .ok (.putfield 37, 3)) (kk : ∀ (M1 : Mem) (H1 : Heap) (locs1 : List Loc), M1 = mu M o 1 v → Wd g lay N s.heap M1 H1 locs1 → W p l e R s m args below meth c H1 locs1 0 0 Qs (F0 m (pc + 3) ls rest)) : W p l e R s m args below meth c H locs 0 0 Qs (F0 m pc ls (.int v :: .ref (ga g o) :: rest)) := q_put C w kc_X5 ho hl 1 hf (by decide) k_176 rfl (by decide +kernel) hdg kk
theorem gi_RX5_70 {p : Program} {l : Launch} {e : Env} {R : Room} {s : State} {m : MethodId} {args : Array Value} {below : List Frame} {meth : Method} {c : Code} {H : Heap} {locs : List Loc} {Qs : State → Prop} {cc : ByteArray} {pc nL o : Nat} {ls : Array Slot} {rest : List Value} {g : Gt} {lay : Nat → Lay} {N : Nat} {M : Mem} {fs : List (Option Nat)} (C : Cx p s m args c cc nL RX5 g) (w : Wd g lay N s.heap M H locs) (ho : o < N) (hl : lay o = .inl (0, fs)) (hf : fs[9]? = some none) (hdg : decode cc pc = .ok (.getfield 70, 3)) (kk : W p l e R s m args below meth c H locs 0 0 Qs (F0 m (pc + 3) ls (.int (M o 9) :: rest))) : W p l e R s m args below meth c H locs 0 0 Qs (F0 m pc ls (.ref (ga g o) :: rest)) := q_geti C w kc_X0 ho hl 9 hf (by decide) k_177 hdg kk
theorem pi_RX5_70 {p : Program} {l : Launch} {e : Env} {R : Room} {s : State} {m : MethodId} {args : Array Value} {below : List Frame} {meth : Method} {c : Code} {H : Heap} {locs : List Loc} {Qs : State → Prop} {cc : ByteArray} {pc nL o : Nat} {ls : Array Slot} {rest : List Value} {g : Gt} {lay : Nat → Lay} {N : Nat} {M : Mem} {fs : List (Option Nat)} (C : Cx p s m args c cc nL RX5 g) (w : Wd g lay N s.heap M H locs) (ho : o < N) (hl : lay o = .inl (0, fs)) {v : Int32} (hf : fs[9]? = some none) (hdg : decode cc pc = .ok (.putfield 70, 3)) (kk : ∀ (M1 : Mem) (H1 : Heap) (locs1 : List Loc), M1 = mu M o 9 v → Wd g lay N s.heap M1 H1 locs1 → W p l e R s m args below meth c H1 locs1 0 0 Qs (F0 m (pc + 3) ls rest)) : W p l e R s m args below meth c H locs 0 0 Qs (F0 m pc ls (.int v :: .ref (ga g o) :: rest)) := q_put C w kc_X0 ho hl 9 hf (by decide) k_177 rfl (by decide +kernel) hdg kk
theorem gi_RX5_80 {p : Program} {l : Launch} {e : Env} {R : Room} {s : State} {m : MethodId} {args : Array Value} {below : List Frame} {meth : Method} {c : Code} {H : Heap} {locs : List Loc} {Qs : State → Prop} {cc : ByteArray} {pc nL o : Nat} {ls : Array Slot} {rest : List Value} {g : Gt} {lay : Nat → Lay} {N : Nat} {M : Mem} {fs : List (Option Nat)} (C : Cx p s m args c cc nL RX5 g) (w : Wd g lay N s.heap M H locs) (ho : o < N) (hl : lay o = .inl (5, fs)) (hf : fs[4]? = some none) (hdg : decode cc pc = .ok (.getfield 80, 3)) (kk : W p l e R s m args below meth c H locs 0 0 Qs (F0 m (pc + 3) ls (.int (M o 4) :: rest))) : W p l e R s m args below meth c H locs 0 0 Qs (F0 m pc ls (.ref (ga g o) :: rest)) := q_geti C w kc_X5 ho hl 4 hf (by decide) k_178 hdg kk
theorem pi_RX5_80 {p : Program} {l : Launch} {e : Env} {R : Room} {s : State} {m : MethodId} {args : Array Value} {below : List Frame} {meth : Method} {c : Code} {H : Heap} {locs : List Loc} {Qs : State → Prop} {cc : ByteArray} {pc nL o : Nat} {ls : Array Slot} {rest : List Value} {g : Gt} {lay : Nat → Lay} {N : Nat} {M : Mem} {fs : List (Option Nat)} (C : Cx p s m args c cc nL RX5 g) (w : Wd g lay N s.heap M H locs) (ho : o < N) (hl : lay o = .inl (5, fs)) {v : Int32} (hf : fs[4]? = some none) (hdg : decode cc pc = .ok (.putfield 80, 3)) (kk : ∀ (M1 : Mem) (H1 : Heap) (locs1 : List Loc), M1 = mu M o 4 v → Wd g lay N s.heap M1 H1 locs1 → W p l e R s m args below meth c H1 locs1 0 0 Qs (F0 m (pc + 3) ls rest)) : W p l e R s m args below meth c H locs 0 0 Qs (F0 m pc ls (.int v :: .ref (ga g o) :: rest)) := q_put C w kc_X5 ho hl 4 hf (by decide) k_178 rfl (by decide +kernel) hdg kk
theorem gi_RX5_86 {p : Program} {l : Launch} {e : Env} {R : Room} {s : State} {m : MethodId} {args : Array Value} {below : List Frame} {meth : Method} {c : Code} {H : Heap} {locs : List Loc} {Qs : State → Prop} {cc : ByteArray} {pc nL o : Nat} {ls : Array Slot} {rest : List Value} {g : Gt} {lay : Nat → Lay} {N : Nat} {M : Mem} {fs : List (Option Nat)} (C : Cx p s m args c cc nL RX5 g) (w : Wd g lay N s.heap M H locs) (ho : o < N) (hl : lay o = .inl (0, fs)) (hf : fs[10]? = some none) (hdg : decode cc pc = .ok (.getfield 86, 3)) (kk : W p l e R s m args below meth c H locs 0 0 Qs (F0 m (pc + 3) ls (.int (M o 10) :: rest))) : W p l e R s m args below meth c H locs 0 0 Qs (F0 m pc ls (.ref (ga g o) :: rest)) := q_geti C w kc_X0 ho hl 10 hf (by decide) k_179 hdg kk
theorem pi_RX5_86 {p : Program} {l : Launch} {e : Env} {R : Room} {s : State} {m : MethodId} {args : Array Value} {below : List Frame} {meth : Method} {c : Code} {H : Heap} {locs : List Loc} {Qs : State → Prop} {cc : ByteArray} {pc nL o : Nat} {ls : Array Slot} {rest : List Value} {g : Gt} {lay : Nat → Lay} {N : Nat} {M : Mem} {fs : List (Option Nat)} (C : Cx p s m args c cc nL RX5 g) (w : Wd g lay N s.heap M H locs) (ho : o < N) (hl : lay o = .inl (0, fs)) {v : Int32} (hf : fs[10]? = some none) (hdg : decode cc pc = .ok (.putfield 86, 3)) (kk : ∀ (M1 : Mem) (H1 : Heap) (locs1 : List Loc), M1 = mu M o 10 v → Wd g lay N s.heap M1 H1 locs1 → W p l e R s m args below meth c H1 locs1 0 0 Qs (F0 m (pc + 3) ls rest)) : W p l e R s m args below meth c H locs 0 0 Qs (F0 m pc ls (.int v :: .ref (ga g o) :: rest)) := q_put C w kc_X0 ho hl 10 hf (by decide) k_179 rfl (by decide +kernel) hdg kk
theorem gr_RX5_93 {p : Program} {l : Launch} {e : Env} {R : Room} {s : State} {m : MethodId} {args : Array Value} {below : List Frame} {meth : Method} {c : Code} {H : Heap} {locs : List Loc} {Qs : State → Prop} {cc : ByteArray} {pc nL o : Nat} {ls : Array Slot} {rest : List Value} {g : Gt} {lay : Nat → Lay} {N : Nat} {M : Mem} {fs : List (Option Nat)} (C : Cx p s m args c cc nL RX5 g) (w : Wd g lay N s.heap M H locs) (ho : o < N) (hl : lay o = .inl (0, fs)) {x : Nat} (hf : fs[0]? = some (some x)) (hdg : decode cc pc = .ok (.getfield 93, 3)) (kk : W p l e R s m args below meth c H locs 0 0 Qs (F0 m (pc + 3) ls (.ref (ga g x) :: rest))) : W p l e R s m args below meth c H locs 0 0 Qs (F0 m pc ls (.ref (ga g o) :: rest)) := q_getr C w kc_X0 ho hl 0 hf (by decide) k_180 hdg kk
theorem gr_RX5_97 {p : Program} {l : Launch} {e : Env} {R : Room} {s : State} {m : MethodId} {args : Array Value} {below : List Frame} {meth : Method} {c : Code} {H : Heap} {locs : List Loc} {Qs : State → Prop} {cc : ByteArray} {pc nL o : Nat} {ls : Array Slot} {rest : List Value} {g : Gt} {lay : Nat → Lay} {N : Nat} {M : Mem} {fs : List (Option Nat)} (C : Cx p s m args c cc nL RX5 g) (w : Wd g lay N s.heap M H locs) (ho : o < N) (hl : lay o = .inl (0, fs)) {x : Nat} (hf : fs[1]? = some (some x)) (hdg : decode cc pc = .ok (.getfield 97, 3)) (kk : W p l e R s m args below meth c H locs 0 0 Qs (F0 m (pc + 3) ls (.ref (ga g x) :: rest))) : W p l e R s m args below meth c H locs 0 0 Qs (F0 m pc ls (.ref (ga g o) :: rest)) := q_getr C w kc_X0 ho hl 1 hf (by decide) k_181 hdg kk
theorem gi_RX5_104 {p : Program} {l : Launch} {e : Env} {R : Room} {s : State} {m : MethodId} {args : Array Value} {below : List Frame} {meth : Method} {c : Code} {H : Heap} {locs : List Loc} {Qs : State → Prop} {cc : ByteArray} {pc nL o : Nat} {ls : Array Slot} {rest : List Value} {g : Gt} {lay : Nat → Lay} {N : Nat} {M : Mem} {fs : List (Option Nat)} (C : Cx p s m args c cc nL RX5 g) (w : Wd g lay N s.heap M H locs) (ho : o < N) (hl : lay o = .inl (5, fs)) (hf : fs[2]? = some none) (hdg : decode cc pc = .ok (.getfield 104, 3)) (kk : W p l e R s m args below meth c H locs 0 0 Qs (F0 m (pc + 3) ls (.int (M o 2) :: rest))) : W p l e R s m args below meth c H locs 0 0 Qs (F0 m pc ls (.ref (ga g o) :: rest)) := q_geti C w kc_X5 ho hl 2 hf (by decide) k_182 hdg kk
theorem pi_RX5_104 {p : Program} {l : Launch} {e : Env} {R : Room} {s : State} {m : MethodId} {args : Array Value} {below : List Frame} {meth : Method} {c : Code} {H : Heap} {locs : List Loc} {Qs : State → Prop} {cc : ByteArray} {pc nL o : Nat} {ls : Array Slot} {rest : List Value} {g : Gt} {lay : Nat → Lay} {N : Nat} {M : Mem} {fs : List (Option Nat)} (C : Cx p s m args c cc nL RX5 g) (w : Wd g lay N s.heap M H locs) (ho : o < N) (hl : lay o = .inl (5, fs)) {v : Int32} (hf : fs[2]? = some none) (hdg : decode cc pc = .ok (.putfield 104, 3)) (kk : ∀ (M1 : Mem) (H1 : Heap) (locs1 : List Loc), M1 = mu M o 2 v → Wd g lay N s.heap M1 H1 locs1 → W p l e R s m args below meth c H1 locs1 0 0 Qs (F0 m (pc + 3) ls rest)) : W p l e R s m args below meth c H locs 0 0 Qs (F0 m pc ls (.int v :: .ref (ga g o) :: rest)) := q_put C w kc_X5 ho hl 2 hf (by decide) k_182 rfl (by decide +kernel) hdg kk
theorem gi_RX5_107 {p : Program} {l : Launch} {e : Env} {R : Room} {s : State} {m : MethodId} {args : Array Value} {below : List Frame} {meth : Method} {c : Code} {H : Heap} {locs : List Loc} {Qs : State → Prop} {cc : ByteArray} {pc nL o : Nat} {ls : Array Slot} {rest : List Value} {g : Gt} {lay : Nat → Lay} {N : Nat} {M : Mem} {fs : List (Option Nat)} (C : Cx p s m args c cc nL RX5 g) (w : Wd g lay N s.heap M H locs) (ho : o < N) (hl : lay o = .inl (4, fs)) (hf : fs[1]? = some none) (hdg : decode cc pc = .ok (.getfield 107, 3)) (kk : W p l e R s m args below meth c H locs 0 0 Qs (F0 m (pc + 3) ls (.int (M o 1) :: rest))) : W p l e R s m args below meth c H locs 0 0 Qs (F0 m pc ls (.ref (ga g o) :: rest)) := q_geti C w kc_X4 ho hl 1 hf (by decide) k_183 hdg kk
theorem pi_RX5_107 {p : Program} {l : Launch} {e : Env} {R : Room} {s : State} {m : MethodId} {args : Array Value} {below : List Frame} {meth : Method} {c : Code} {H : Heap} {locs : List Loc} {Qs : State → Prop} {cc : ByteArray} {pc nL o : Nat} {ls : Array Slot} {rest : List Value} {g : Gt} {lay : Nat → Lay} {N : Nat} {M : Mem} {fs : List (Option Nat)} (C : Cx p s m args c cc nL RX5 g) (w : Wd g lay N s.heap M H locs) (ho : o < N) (hl : lay o = .inl (4, fs)) {v : Int32} (hf : fs[1]? = some none) (hdg : decode cc pc = .ok (.putfield 107, 3)) (kk : ∀ (M1 : Mem) (H1 : Heap) (locs1 : List Loc), M1 = mu M o 1 v → Wd g lay N s.heap M1 H1 locs1 → W p l e R s m args below meth c H1 locs1 0 0 Qs (F0 m (pc + 3) ls rest)) : W p l e R s m args below meth c H locs 0 0 Qs (F0 m pc ls (.int v :: .ref (ga g o) :: rest)) := q_put C w kc_X4 ho hl 1 hf (by decide) k_183 rfl (by decide +kernel) hdg kk
theorem gr_RX5_116 {p : Program} {l : Launch} {e : Env} {R : Room} {s : State} {m : MethodId} {args : Array Value} {below : List Frame} {meth : Method} {c : Code} {H : Heap} {locs : List Loc} {Qs : State → Prop} {cc : ByteArray} {pc nL o : Nat} {ls : Array Slot} {rest : List Value} {g : Gt} {lay : Nat → Lay} {N : Nat} {M : Mem} {fs : List (Option Nat)} (C : Cx p s m args c cc nL RX5 g) (w : Wd g lay N s.heap M H locs) (ho : o < N) (hl : lay o = .inl (4, fs)) {x : Nat} (hf : fs[0]? = some (some x)) (hdg : decode cc pc = .ok (.getfield 116, 3)) (kk : W p l e R s m args below meth c H locs 0 0 Qs (F0 m (pc + 3) ls (.ref (ga g x) :: rest))) : W p l e R s m args below meth c H locs 0 0 Qs (F0 m pc ls (.ref (ga g o) :: rest)) := q_getr C w kc_X4 ho hl 0 hf (by decide) k_184 hdg kk
theorem gr_RX6_10 {p : Program} {l : Launch} {e : Env} {R : Room} {s : State} {m : MethodId} {args : Array Value} {below : List Frame} {meth : Method} {c : Code} {H : Heap} {locs : List Loc} {Qs : State → Prop} {cc : ByteArray} {pc nL o : Nat} {ls : Array Slot} {rest : List Value} {g : Gt} {lay : Nat → Lay} {N : Nat} {M : Mem} {fs : List (Option Nat)} (C : Cx p s m args c cc nL RX6 g) (w : Wd g lay N s.heap M H locs) (ho : o < N) (hl : lay o = .inl (6, fs)) {x : Nat} (hf : fs[0]? = some (some x)) (hdg : decode cc pc = .ok (.getfield 10, 3)) (kk : W p l e R s m args below meth c H locs 0 0 Qs (F0 m (pc + 3) ls (.ref (ga g x) :: rest))) : W p l e R s m args below meth c H locs 0 0 Qs (F0 m pc ls (.ref (ga g o) :: rest)) := q_getr C w kc_X6 ho hl 0 hf (by decide) k_185 hdg kk
theorem gi_RX6_20 {p : Program} {l : Launch} {e : Env} {R : Room} {s : State} {m : MethodId} {args : Array Value} {below : List Frame} {meth : Method} {c : Code} {H : Heap} {locs : List Loc} {Qs : State → Prop} {cc : ByteArray} {pc nL o : Nat} {ls : Array Slot} {rest : List Value} {g : Gt} {lay : Nat → Lay} {N : Nat} {M : Mem} {fs : List (Option Nat)} (C : Cx p s m args c cc nL RX6 g) (w : Wd g lay N s.heap M H locs) (ho : o < N) (hl : lay o = .inl (6, fs)) (hf : fs[1]? = some none) (hdg : decode cc pc = .ok (.getfield 20, 3)) (kk : W p l e R s m args below meth c H locs 0 0 Qs (F0 m (pc + 3) ls (.int (M o 1) :: rest))) : W p l e R s m args below meth c H locs 0 0 Qs (F0 m pc ls (.ref (ga g o) :: rest)) := q_geti C w kc_X6 ho hl 1 hf (by decide) k_186 hdg kk
theorem pi_RX6_20 {p : Program} {l : Launch} {e : Env} {R : Room} {s : State} {m : MethodId} {args : Array Value} {below : List Frame} {meth : Method} {c : Code} {H : Heap} {locs : List Loc} {Qs : State → Prop} {cc : ByteArray} {pc nL o : Nat} {ls : Array Slot} {rest : List Value} {g : Gt} {lay : Nat → Lay} {N : Nat} {M : Mem} {fs : List (Option Nat)} (C : Cx p s m args c cc nL RX6 g) (w : Wd g lay N s.heap M H locs) (ho : o < N) (hl : lay o = .inl (6, fs)) {v : Int32} (hf : fs[1]? = some none) (hdg : decode cc pc = .ok (.putfield 20, 3)) (kk : ∀ (M1 : Mem) (H1 : Heap) (locs1 : List Loc), M1 = mu M o 1 v → Wd g lay N s.heap M1 H1 locs1 → W p l e R s m args below meth c H1 locs1 0 0 Qs (F0 m (pc + 3) ls rest)) : W p l e R s m args below meth c H locs 0 0 Qs (F0 m pc ls (.int v :: .ref (ga g o) :: rest)) := q_put C w kc_X6 ho hl 1 hf (by decide) k_186 rfl (by decide +kernel) hdg kk
theorem gi_RX6_24 {p : Program} {l : Launch} {e : Env} {R : Room} {s : State} {m : MethodId} {args : Array Value} {below : List Frame} {meth : Method} {c : Code} {H : Heap} {locs : List Loc} {Qs : State → Prop} {cc : ByteArray} {pc nL o : Nat} {ls : Array Slot} {rest : List Value} {g : Gt} {lay : Nat → Lay} {N : Nat} {M : Mem} {fs : List (Option Nat)} (C : Cx p s m args c cc nL RX6 g) (w : Wd g lay N s.heap M H locs) (ho : o < N) (hl : lay o = .inl (6, fs)) (hf : fs[2]? = some none) (hdg : decode cc pc = .ok (.getfield 24, 3)) (kk : W p l e R s m args below meth c H locs 0 0 Qs (F0 m (pc + 3) ls (.int (M o 2) :: rest))) : W p l e R s m args below meth c H locs 0 0 Qs (F0 m pc ls (.ref (ga g o) :: rest)) := q_geti C w kc_X6 ho hl 2 hf (by decide) k_187 hdg kk
theorem pi_RX6_24 {p : Program} {l : Launch} {e : Env} {R : Room} {s : State} {m : MethodId} {args : Array Value} {below : List Frame} {meth : Method} {c : Code} {H : Heap} {locs : List Loc} {Qs : State → Prop} {cc : ByteArray} {pc nL o : Nat} {ls : Array Slot} {rest : List Value} {g : Gt} {lay : Nat → Lay} {N : Nat} {M : Mem} {fs : List (Option Nat)} (C : Cx p s m args c cc nL RX6 g) (w : Wd g lay N s.heap M H locs) (ho : o < N) (hl : lay o = .inl (6, fs)) {v : Int32} (hf : fs[2]? = some none) (hdg : decode cc pc = .ok (.putfield 24, 3)) (kk : ∀ (M1 : Mem) (H1 : Heap) (locs1 : List Loc), M1 = mu M o 2 v → Wd g lay N s.heap M1 H1 locs1 → W p l e R s m args below meth c H1 locs1 0 0 Qs (F0 m (pc + 3) ls rest)) : W p l e R s m args below meth c H locs 0 0 Qs (F0 m pc ls (.int v :: .ref (ga g o) :: rest)) := q_put C w kc_X6 ho hl 2 hf (by decide) k_187 rfl (by decide +kernel) hdg kk
theorem gi_RX6_27 {p : Program} {l : Launch} {e : Env} {R : Room} {s : State} {m : MethodId} {args : Array Value} {below : List Frame} {meth : Method} {c : Code} {H : Heap} {locs : List Loc} {Qs : State → Prop} {cc : ByteArray} {pc nL o : Nat} {ls : Array Slot} {rest : List Value} {g : Gt} {lay : Nat → Lay} {N : Nat} {M : Mem} {fs : List (Option Nat)} (C : Cx p s m args c cc nL RX6 g) (w : Wd g lay N s.heap M H locs) (ho : o < N) (hl : lay o = .inl (6, fs)) (hf : fs[3]? = some none) (hdg : decode cc pc = .ok (.getfield 27, 3)) (kk : W p l e R s m args below meth c H locs 0 0 Qs (F0 m (pc + 3) ls (.int (M o 3) :: rest))) : W p l e R s m args below meth c H locs 0 0 Qs (F0 m pc ls (.ref (ga g o) :: rest)) := q_geti C w kc_X6 ho hl 3 hf (by decide) k_188 hdg kk
theorem pi_RX6_27 {p : Program} {l : Launch} {e : Env} {R : Room} {s : State} {m : MethodId} {args : Array Value} {below : List Frame} {meth : Method} {c : Code} {H : Heap} {locs : List Loc} {Qs : State → Prop} {cc : ByteArray} {pc nL o : Nat} {ls : Array Slot} {rest : List Value} {g : Gt} {lay : Nat → Lay} {N : Nat} {M : Mem} {fs : List (Option Nat)} (C : Cx p s m args c cc nL RX6 g) (w : Wd g lay N s.heap M H locs) (ho : o < N) (hl : lay o = .inl (6, fs)) {v : Int32} (hf : fs[3]? = some none) (hdg : decode cc pc = .ok (.putfield 27, 3)) (kk : ∀ (M1 : Mem) (H1 : Heap) (locs1 : List Loc), M1 = mu M o 3 v → Wd g lay N s.heap M1 H1 locs1 → W p l e R s m args below meth c H1 locs1 0 0 Qs (F0 m (pc + 3) ls rest)) : W p l e R s m args below meth c H locs 0 0 Qs (F0 m pc ls (.int v :: .ref (ga g o) :: rest)) := q_put C w kc_X6 ho hl 3 hf (by decide) k_188 rfl (by decide +kernel) hdg kk
theorem gi_RX6_30 {p : Program} {l : Launch} {e : Env} {R : Room} {s : State} {m : MethodId} {args : Array Value} {below : List Frame} {meth : Method} {c : Code} {H : Heap} {locs : List Loc} {Qs : State → Prop} {cc : ByteArray} {pc nL o : Nat} {ls : Array Slot} {rest : List Value} {g : Gt} {lay : Nat → Lay} {N : Nat} {M : Mem} {fs : List (Option Nat)} (C : Cx p s m args c cc nL RX6 g) (w : Wd g lay N s.heap M H locs) (ho : o < N) (hl : lay o = .inl (6, fs)) (hf : fs[4]? = some none) (hdg : decode cc pc = .ok (.getfield 30, 3)) (kk : W p l e R s m args below meth c H locs 0 0 Qs (F0 m (pc + 3) ls (.int (M o 4) :: rest))) : W p l e R s m args below meth c H locs 0 0 Qs (F0 m pc ls (.ref (ga g o) :: rest)) := q_geti C w kc_X6 ho hl 4 hf (by decide) k_189 hdg kk
theorem pi_RX6_30 {p : Program} {l : Launch} {e : Env} {R : Room} {s : State} {m : MethodId} {args : Array Value} {below : List Frame} {meth : Method} {c : Code} {H : Heap} {locs : List Loc} {Qs : State → Prop} {cc : ByteArray} {pc nL o : Nat} {ls : Array Slot} {rest : List Value} {g : Gt} {lay : Nat → Lay} {N : Nat} {M : Mem} {fs : List (Option Nat)} (C : Cx p s m args c cc nL RX6 g) (w : Wd g lay N s.heap M H locs) (ho : o < N) (hl : lay o = .inl (6, fs)) {v : Int32} (hf : fs[4]? = some none) (hdg : decode cc pc = .ok (.putfield 30, 3)) (kk : ∀ (M1 : Mem) (H1 : Heap) (locs1 : List Loc), M1 = mu M o 4 v → Wd g lay N s.heap M1 H1 locs1 → W p l e R s m args below meth c H1 locs1 0 0 Qs (F0 m (pc + 3) ls rest)) : W p l e R s m args below meth c H locs 0 0 Qs (F0 m pc ls (.int v :: .ref (ga g o) :: rest)) := q_put C w kc_X6 ho hl 4 hf (by decide) k_189 rfl (by decide +kernel) hdg kk
theorem gi_RX6_33 {p : Program} {l : Launch} {e : Env} {R : Room} {s : State} {m : MethodId} {args : Array Value} {below : List Frame} {meth : Method} {c : Code} {H : Heap} {locs : List Loc} {Qs : State → Prop} {cc : ByteArray} {pc nL o : Nat} {ls : Array Slot} {rest : List Value} {g : Gt} {lay : Nat → Lay} {N : Nat} {M : Mem} {fs : List (Option Nat)} (C : Cx p s m args c cc nL RX6 g) (w : Wd g lay N s.heap M H locs) (ho : o < N) (hl : lay o = .inl (6, fs)) (hf : fs[5]? = some none) (hdg : decode cc pc = .ok (.getfield 33, 3)) (kk : W p l e R s m args below meth c H locs 0 0 Qs (F0 m (pc + 3) ls (.int (M o 5) :: rest))) : W p l e R s m args below meth c H locs 0 0 Qs (F0 m pc ls (.ref (ga g o) :: rest)) := q_geti C w kc_X6 ho hl 5 hf (by decide) k_190 hdg kk
theorem pi_RX6_33 {p : Program} {l : Launch} {e : Env} {R : Room} {s : State} {m : MethodId} {args : Array Value} {below : List Frame} {meth : Method} {c : Code} {H : Heap} {locs : List Loc} {Qs : State → Prop} {cc : ByteArray} {pc nL o : Nat} {ls : Array Slot} {rest : List Value} {g : Gt} {lay : Nat → Lay} {N : Nat} {M : Mem} {fs : List (Option Nat)} (C : Cx p s m args c cc nL RX6 g) (w : Wd g lay N s.heap M H locs) (ho : o < N) (hl : lay o = .inl (6, fs)) {v : Int32} (hf : fs[5]? = some none) (hdg : decode cc pc = .ok (.putfield 33, 3)) (kk : ∀ (M1 : Mem) (H1 : Heap) (locs1 : List Loc), M1 = mu M o 5 v → Wd g lay N s.heap M1 H1 locs1 → W p l e R s m args below meth c H1 locs1 0 0 Qs (F0 m (pc + 3) ls rest)) : W p l e R s m args below meth c H locs 0 0 Qs (F0 m pc ls (.int v :: .ref (ga g o) :: rest)) := q_put C w kc_X6 ho hl 5 hf (by decide) k_190 rfl (by decide +kernel) hdg kk
theorem gi_RX6_44 {p : Program} {l : Launch} {e : Env} {R : Room} {s : State} {m : MethodId} {args : Array Value} {below : List Frame} {meth : Method} {c : Code} {H : Heap} {locs : List Loc} {Qs : State → Prop} {cc : ByteArray} {pc nL o : Nat} {ls : Array Slot} {rest : List Value} {g : Gt} {lay : Nat → Lay} {N : Nat} {M : Mem} {fs : List (Option Nat)} (C : Cx p s m args c cc nL RX6 g) (w : Wd g lay N s.heap M H locs) (ho : o < N) (hl : lay o = .inl (0, fs)) (hf : fs[13]? = some none) (hdg : decode cc pc = .ok (.getfield 44, 3)) (kk : W p l e R s m args below meth c H locs 0 0 Qs (F0 m (pc + 3) ls (.int (M o 13) :: rest))) : W p l e R s m args below meth c H locs 0 0 Qs (F0 m pc ls (.ref (ga g o) :: rest)) := q_geti C w kc_X0 ho hl 13 hf (by decide) k_191 hdg kk
theorem pi_RX6_44 {p : Program} {l : Launch} {e : Env} {R : Room} {s : State} {m : MethodId} {args : Array Value} {below : List Frame} {meth : Method} {c : Code} {H : Heap} {locs : List Loc} {Qs : State → Prop} {cc : ByteArray} {pc nL o : Nat} {ls : Array Slot} {rest : List Value} {g : Gt} {lay : Nat → Lay} {N : Nat} {M : Mem} {fs : List (Option Nat)} (C : Cx p s m args c cc nL RX6 g) (w : Wd g lay N s.heap M H locs) (ho : o < N) (hl : lay o = .inl (0, fs)) {v : Int32} (hf : fs[13]? = some none) (hdg : decode cc pc = .ok (.putfield 44, 3)) (kk : ∀ (M1 : Mem) (H1 : Heap) (locs1 : List Loc), M1 = mu M o 13 v → Wd g lay N s.heap M1 H1 locs1 → W p l e R s m args below meth c H1 locs1 0 0 Qs (F0 m (pc + 3) ls rest)) : W p l e R s m args below meth c H locs 0 0 Qs (F0 m pc ls (.int v :: .ref (ga g o) :: rest)) := q_put C w kc_X0 ho hl 13 hf (by decide) k_191 rfl (by decide +kernel) hdg kk
theorem gr_RX7_10 {p : Program} {l : Launch} {e : Env} {R : Room} {s : State} {m : MethodId} {args : Array Value} {below : List Frame} {meth : Method} {c : Code} {H : Heap} {locs : List Loc} {Qs : State → Prop} {cc : ByteArray} {pc nL o : Nat} {ls : Array Slot} {rest : List Value} {g : Gt} {lay : Nat → Lay} {N : Nat} {M : Mem} {fs : List (Option Nat)} (C : Cx p s m args c cc nL RX7 g) (w : Wd g lay N s.heap M H locs) (ho : o < N) (hl : lay o = .inl (7, fs)) {x : Nat} (hf : fs[0]? = some (some x)) (hdg : decode cc pc = .ok (.getfield 10, 3)) (kk : W p l e R s m args below meth c H locs 0 0 Qs (F0 m (pc + 3) ls (.ref (ga g x) :: rest))) : W p l e R s m args below meth c H locs 0 0 Qs (F0 m pc ls (.ref (ga g o) :: rest)) := q_getr C w kc_X7 ho hl 0 hf (by decide) k_192 hdg kk
theorem gr_RX7_19 {p : Program} {l : Launch} {e : Env} {R : Room} {s : State} {m : MethodId} {args : Array Value} {below : List Frame} {meth : Method} {c : Code} {H : Heap} {locs : List Loc} {Qs : State → Prop} {cc : ByteArray} {pc nL o : Nat} {ls : Array Slot} {rest : List Value} {g : Gt} {lay : Nat → Lay} {N : Nat} {M : Mem} {fs : List (Option Nat)} (C : Cx p s m args c cc nL RX7 g) (w : Wd g lay N s.heap M H locs) (ho : o < N) (hl : lay o = .inl (7, fs)) {x : Nat} (hf : fs[1]? = some (some x)) (hdg : decode cc pc = .ok (.getfield 19, 3)) (kk : W p l e R s m args below meth c H locs 0 0 Qs (F0 m (pc + 3) ls (.ref (ga g x) :: rest))) : W p l e R s m args below meth c H locs 0 0 Qs (F0 m pc ls (.ref (ga g o) :: rest)) := q_getr C w kc_X7 ho hl 1 hf (by decide) k_193 hdg kk
theorem gr_RX7_26 {p : Program} {l : Launch} {e : Env} {R : Room} {s : State} {m : MethodId} {args : Array Value} {below : List Frame} {meth : Method} {c : Code} {H : Heap} {locs : List Loc} {Qs : State → Prop} {cc : ByteArray} {pc nL o : Nat} {ls : Array Slot} {rest : List Value} {g : Gt} {lay : Nat → Lay} {N : Nat} {M : Mem} {fs : List (Option Nat)} (C : Cx p s m args c cc nL RX7 g) (w : Wd g lay N s.heap M H locs) (ho : o < N) (hl : lay o = .inl (7, fs)) {x : Nat} (hf : fs[2]? = some (some x)) (hdg : decode cc pc = .ok (.getfield 26, 3)) (kk : W p l e R s m args below meth c H locs 0 0 Qs (F0 m (pc + 3) ls (.ref (ga g x) :: rest))) : W p l e R s m args below meth c H locs 0 0 Qs (F0 m pc ls (.ref (ga g o) :: rest)) := q_getr C w kc_X7 ho hl 2 hf (by decide) k_194 hdg kk
theorem gr_RX7_35 {p : Program} {l : Launch} {e : Env} {R : Room} {s : State} {m : MethodId} {args : Array Value} {below : List Frame} {meth : Method} {c : Code} {H : Heap} {locs : List Loc} {Qs : State → Prop} {cc : ByteArray} {pc nL o : Nat} {ls : Array Slot} {rest : List Value} {g : Gt} {lay : Nat → Lay} {N : Nat} {M : Mem} {fs : List (Option Nat)} (C : Cx p s m args c cc nL RX7 g) (w : Wd g lay N s.heap M H locs) (ho : o < N) (hl : lay o = .inl (7, fs)) {x : Nat} (hf : fs[3]? = some (some x)) (hdg : decode cc pc = .ok (.getfield 35, 3)) (kk : W p l e R s m args below meth c H locs 0 0 Qs (F0 m (pc + 3) ls (.ref (ga g x) :: rest))) : W p l e R s m args below meth c H locs 0 0 Qs (F0 m pc ls (.ref (ga g o) :: rest)) := q_getr C w kc_X7 ho hl 3 hf (by decide) k_195 hdg kk
theorem gr_RX7_42 {p : Program} {l : Launch} {e : Env} {R : Room} {s : State} {m : MethodId} {args : Array Value} {below : List Frame} {meth : Method} {c : Code} {H : Heap} {locs : List Loc} {Qs : State → Prop} {cc : ByteArray} {pc nL o : Nat} {ls : Array Slot} {rest : List Value} {g : Gt} {lay : Nat → Lay} {N : Nat} {M : Mem} {fs : List (Option Nat)} (C : Cx p s m args c cc nL RX7 g) (w : Wd g lay N s.heap M H locs) (ho : o < N) (hl : lay o = .inl (7, fs)) {x : Nat} (hf : fs[4]? = some (some x)) (hdg : decode cc pc = .ok (.getfield 42, 3)) (kk : W p l e R s m args below meth c H locs 0 0 Qs (F0 m (pc + 3) ls (.ref (ga g x) :: rest))) : W p l e R s m args below meth c H locs 0 0 Qs (F0 m pc ls (.ref (ga g o) :: rest)) := q_getr C w kc_X7 ho hl 4 hf (by decide) k_196 hdg kk
theorem gr_RX7_49 {p : Program} {l : Launch} {e : Env} {R : Room} {s : State} {m : MethodId} {args : Array Value} {below : List Frame} {meth : Method} {c : Code} {H : Heap} {locs : List Loc} {Qs : State → Prop} {cc : ByteArray} {pc nL o : Nat} {ls : Array Slot} {rest : List Value} {g : Gt} {lay : Nat → Lay} {N : Nat} {M : Mem} {fs : List (Option Nat)} (C : Cx p s m args c cc nL RX7 g) (w : Wd g lay N s.heap M H locs) (ho : o < N) (hl : lay o = .inl (7, fs)) {x : Nat} (hf : fs[5]? = some (some x)) (hdg : decode cc pc = .ok (.getfield 49, 3)) (kk : W p l e R s m args below meth c H locs 0 0 Qs (F0 m (pc + 3) ls (.ref (ga g x) :: rest))) : W p l e R s m args below meth c H locs 0 0 Qs (F0 m pc ls (.ref (ga g o) :: rest)) := q_getr C w kc_X7 ho hl 5 hf (by decide) k_197 hdg kk
theorem gr_RX7_53 {p : Program} {l : Launch} {e : Env} {R : Room} {s : State} {m : MethodId} {args : Array Value} {below : List Frame} {meth : Method} {c : Code} {H : Heap} {locs : List Loc} {Qs : State → Prop} {cc : ByteArray} {pc nL o : Nat} {ls : Array Slot} {rest : List Value} {g : Gt} {lay : Nat → Lay} {N : Nat} {M : Mem} {fs : List (Option Nat)} (C : Cx p s m args c cc nL RX7 g) (w : Wd g lay N s.heap M H locs) (ho : o < N) (hl : lay o = .inl (7, fs)) {x : Nat} (hf : fs[6]? = some (some x)) (hdg : decode cc pc = .ok (.getfield 53, 3)) (kk : W p l e R s m args below meth c H locs 0 0 Qs (F0 m (pc + 3) ls (.ref (ga g x) :: rest))) : W p l e R s m args below meth c H locs 0 0 Qs (F0 m pc ls (.ref (ga g o) :: rest)) := q_getr C w kc_X7 ho hl 6 hf (by decide) k_198 hdg kk
theorem gr_RX7_57 {p : Program} {l : Launch} {e : Env} {R : Room} {s : State} {m : MethodId} {args : Array Value} {below : List Frame} {meth : Method} {c : Code} {H : Heap} {locs : List Loc} {Qs : State → Prop} {cc : ByteArray} {pc nL o : Nat} {ls : Array Slot} {rest : List Value} {g : Gt} {lay : Nat → Lay} {N : Nat} {M : Mem} {fs : List (Option Nat)} (C : Cx p s m args c cc nL RX7 g) (w : Wd g lay N s.heap M H locs) (ho : o < N) (hl : lay o = .inl (7, fs)) {x : Nat} (hf : fs[7]? = some (some x)) (hdg : decode cc pc = .ok (.getfield 57, 3)) (kk : W p l e R s m args below meth c H locs 0 0 Qs (F0 m (pc + 3) ls (.ref (ga g x) :: rest))) : W p l e R s m args below meth c H locs 0 0 Qs (F0 m pc ls (.ref (ga g o) :: rest)) := q_getr C w kc_X7 ho hl 7 hf (by decide) k_199 hdg kk
theorem gr_RX7_63 {p : Program} {l : Launch} {e : Env} {R : Room} {s : State} {m : MethodId} {args : Array Value} {below : List Frame} {meth : Method} {c : Code} {H : Heap} {locs : List Loc} {Qs : State → Prop} {cc : ByteArray} {pc nL o : Nat} {ls : Array Slot} {rest : List Value} {g : Gt} {lay : Nat → Lay} {N : Nat} {M : Mem} {fs : List (Option Nat)} (C : Cx p s m args c cc nL RX7 g) (w : Wd g lay N s.heap M H locs) (ho : o < N) (hl : lay o = .inl (7, fs)) {x : Nat} (hf : fs[8]? = some (some x)) (hdg : decode cc pc = .ok (.getfield 63, 3)) (kk : W p l e R s m args below meth c H locs 0 0 Qs (F0 m (pc + 3) ls (.ref (ga g x) :: rest))) : W p l e R s m args below meth c H locs 0 0 Qs (F0 m pc ls (.ref (ga g o) :: rest)) := q_getr C w kc_X7 ho hl 8 hf (by decide) k_200 hdg kk
theorem gi_RX7_76 {p : Program} {l : Launch} {e : Env} {R : Room} {s : State} {m : MethodId} {args : Array Value} {below : List Frame} {meth : Method} {c : Code} {H : Heap} {locs : List Loc} {Qs : State → Prop} {cc : ByteArray} {pc nL o : Nat} {ls : Array Slot} {rest : List Value} {g : Gt} {lay : Nat → Lay} {N : Nat} {M : Mem} {fs : List (Option Nat)} (C : Cx p s m args c cc nL RX7 g) (w : Wd g lay N s.heap M H locs) (ho : o < N) (hl : lay o = .inl (4, fs)) (hf : fs[1]? = some none) (hdg : decode cc pc = .ok (.getfield 76, 3)) (kk : W p l e R s m args below meth c H locs 0 0 Qs (F0 m (pc + 3) ls (.int (M o 1) :: rest))) : W p l e R s m args below meth c H locs 0 0 Qs (F0 m pc ls (.ref (ga g o) :: rest)) := q_geti C w kc_X4 ho hl 1 hf (by decide) k_201 hdg kk
theorem pi_RX7_76 {p : Program} {l : Launch} {e : Env} {R : Room} {s : State} {m : MethodId} {args : Array Value} {below : List Frame} {meth : Method} {c : Code} {H : Heap} {locs : List Loc} {Qs : State → Prop} {cc : ByteArray} {pc nL o : Nat} {ls : Array Slot} {rest : List Value} {g : Gt} {lay : Nat → Lay} {N : Nat} {M : Mem} {fs : List (Option Nat)} (C : Cx p s m args c cc nL RX7 g) (w : Wd g lay N s.heap M H locs) (ho : o < N) (hl : lay o = .inl (4, fs)) {v : Int32} (hf : fs[1]? = some none) (hdg : decode cc pc = .ok (.putfield 76, 3)) (kk : ∀ (M1 : Mem) (H1 : Heap) (locs1 : List Loc), M1 = mu M o 1 v → Wd g lay N s.heap M1 H1 locs1 → W p l e R s m args below meth c H1 locs1 0 0 Qs (F0 m (pc + 3) ls rest)) : W p l e R s m args below meth c H locs 0 0 Qs (F0 m pc ls (.int v :: .ref (ga g o) :: rest)) := q_put C w kc_X4 ho hl 1 hf (by decide) k_201 rfl (by decide +kernel) hdg kk
theorem gr_RX7_80 {p : Program} {l : Launch} {e : Env} {R : Room} {s : State} {m : MethodId} {args : Array Value} {below : List Frame} {meth : Method} {c : Code} {H : Heap} {locs : List Loc} {Qs : State → Prop} {cc : ByteArray} {pc nL o : Nat} {ls : Array Slot} {rest : List Value} {g : Gt} {lay : Nat → Lay} {N : Nat} {M : Mem} {fs : List (Option Nat)} (C : Cx p s m args c cc nL RX7 g) (w : Wd g lay N s.heap M H locs) (ho : o < N) (hl : lay o = .inl (6, fs)) {x : Nat} (hf : fs[0]? = some (some x)) (hdg : decode cc pc = .ok (.getfield 80, 3)) (kk : W p l e R s m args below meth c H locs 0 0 Qs (F0 m (pc + 3) ls (.ref (ga g x) :: rest))) : W p l e R s m args below meth c H locs 0 0 Qs (F0 m pc ls (.ref (ga g o) :: rest)) := q_getr C w kc_X6 ho hl 0 hf (by decide) k_202 hdg kk
theorem gi_RX7_87 {p : Program} {l : Launch} {e : Env} {R : Room} {s : State} {m : MethodId} {args : Array Value} {below : List Frame} {meth : Method} {c : Code} {H : Heap} {locs : List Loc} {Qs : State → Prop} {cc : ByteArray} {pc nL o : Nat} {ls : Array Slot} {rest : List Value} {g : Gt} {lay : Nat → Lay} {N : Nat} {M : Mem} {fs : List (Option Nat)} (C : Cx p s m args c cc nL RX7 g) (w : Wd g lay N s.heap M H locs) (ho : o < N) (hl : lay o = .inl (5, fs)) (hf : fs[6]? = some none) (hdg : decode cc pc = .ok (.getfield 87, 3)) (kk : W p l e R s m args below meth c H locs 0 0 Qs (F0 m (pc + 3) ls (.int (M o 6) :: rest))) : W p l e R s m args below meth c H locs 0 0 Qs (F0 m pc ls (.ref (ga g o) :: rest)) := q_geti C w kc_X5 ho hl 6 hf (by decide) k_203 hdg kk
theorem pi_RX7_87 {p : Program} {l : Launch} {e : Env} {R : Room} {s : State} {m : MethodId} {args : Array Value} {below : List Frame} {meth : Method} {c : Code} {H : Heap} {locs : List Loc} {Qs : State → Prop} {cc : ByteArray} {pc nL o : Nat} {ls : Array Slot} {rest : List Value} {g : Gt} {lay : Nat → Lay} {N : Nat} {M : Mem} {fs : List (Option Nat)} (C : Cx p s m args c cc nL RX7 g) (w : Wd g lay N s.heap M H locs) (ho : o < N) (hl : lay o = .inl (5, fs)) {v : Int32} (hf : fs[6]? = some none) (hdg : decode cc pc = .ok (.putfield 87, 3)) (kk : ∀ (M1 : Mem) (H1 : Heap) (locs1 : List Loc), M1 = mu M o 6 v → Wd g lay N s.heap M1 H1 locs1 → W p l e R s m args below meth c H1 locs1 0 0 Qs (F0 m (pc + 3) ls rest)) : W p l e R s m args below meth c H locs 0 0 Qs (F0 m pc ls (.int v :: .ref (ga g o) :: rest)) := q_put C w kc_X5 ho hl 6 hf (by decide) k_203 rfl (by decide +kernel) hdg kk
theorem gi_RX7_90 {p : Program} {l : Launch} {e : Env} {R : Room} {s : State} {m : MethodId} {args : Array Value} {below : List Frame} {meth : Method} {c : Code} {H : Heap} {locs : List Loc} {Qs : State → Prop} {cc : ByteArray} {pc nL o : Nat} {ls : Array Slot} {rest : List Value} {g : Gt} {lay : Nat → Lay} {N : Nat} {M : Mem} {fs : List (Option Nat)} (C : Cx p s m args c cc nL RX7 g) (w : Wd g lay N s.heap M H locs) (ho : o < N) (hl : lay o = .inl (7, fs)) (hf : fs[9]? = some none) (hdg : decode cc pc = .ok (.getfield 90, 3)) (kk : W p l e R s m args below meth c H locs 0 0 Qs (F0 m (pc + 3) ls (.int (M o 9) :: rest))) : W p l e R s m args below meth c H locs 0 0 Qs (F0 m pc ls (.ref (ga g o) :: rest)) := q_geti C w kc_X7 ho hl 9 hf (by decide) k_204 hdg kk
theorem pi_RX7_90 {p : Program} {l : Launch} {e : Env} {R : Room} {s : State} {m : MethodId} {args : Array Value} {below : List Frame} {meth : Method} {c : Code} {H : Heap} {locs : List Loc} {Qs : State → Prop} {cc : ByteArray} {pc nL o : Nat} {ls : Array Slot} {rest : List Value} {g : Gt} {lay : Nat → Lay} {N : Nat} {M : Mem} {fs : List (Option Nat)} (C : Cx p s m args c cc nL RX7 g) (w : Wd g lay N s.heap M H locs) (ho : o < N) (hl : lay o = .inl (7, fs)) {v : Int32} (hf : fs[9]? = some none) (hdg : decode cc pc = .ok (.putfield 90, 3)) (kk : ∀ (M1 : Mem) (H1 : Heap) (locs1 : List Loc), M1 = mu M o 9 v → Wd g lay N s.heap M1 H1 locs1 → W p l e R s m args below meth c H1 locs1 0 0 Qs (F0 m (pc + 3) ls rest)) : W p l e R s m args below meth c H locs 0 0 Qs (F0 m pc ls (.int v :: .ref (ga g o) :: rest)) := q_put C w kc_X7 ho hl 9 hf (by decide) k_204 rfl (by decide +kernel) hdg kk
theorem gi_RX7_93 {p : Program} {l : Launch} {e : Env} {R : Room} {s : State} {m : MethodId} {args : Array Value} {below : List Frame} {meth : Method} {c : Code} {H : Heap} {locs : List Loc} {Qs : State → Prop} {cc : ByteArray} {pc nL o : Nat} {ls : Array Slot} {rest : List Value} {g : Gt} {lay : Nat → Lay} {N : Nat} {M : Mem} {fs : List (Option Nat)} (C : Cx p s m args c cc nL RX7 g) (w : Wd g lay N s.heap M H locs) (ho : o < N) (hl : lay o = .inl (5, fs)) (hf : fs[7]? = some none) (hdg : decode cc pc = .ok (.getfield 93, 3)) (kk : W p l e R s m args below meth c H locs 0 0 Qs (F0 m (pc + 3) ls (.int (M o 7) :: rest))) : W p l e R s m args below meth c H locs 0 0 Qs (F0 m pc ls (.ref (ga g o) :: rest)) := q_geti C w kc_X5 ho hl 7 hf (by decide) k_205 hdg kk
theorem pi_RX7_93 {p : Program} {l : Launch} {e : Env} {R : Room} {s : State} {m : MethodId} {args : Array Value} {below : List Frame} {meth : Method} {c : Code} {H : Heap} {locs : List Loc} {Qs : State → Prop} {cc : ByteArray} {pc nL o : Nat} {ls : Array Slot} {rest : List Value} {g : Gt} {lay : Nat → Lay} {N : Nat} {M : Mem} {fs : List (Option Nat)} (C : Cx p s m args c cc nL RX7 g) (w : Wd g lay N s.heap M H locs) (ho : o < N) (hl : lay o = .inl (5, fs)) {v : Int32} (hf : fs[7]? = some none) (hdg : decode cc pc = .ok (.putfield 93, 3)) (kk : ∀ (M1 : Mem) (H1 : Heap) (locs1 : List Loc), M1 = mu M o 7 v → Wd g lay N s.heap M1 H1 locs1 → W p l e R s m args below meth c H1 locs1 0 0 Qs (F0 m (pc + 3) ls rest)) : W p l e R s m args below meth c H locs 0 0 Qs (F0 m pc ls (.int v :: .ref (ga g o) :: rest)) := q_put C w kc_X5 ho hl 7 hf (by decide) k_205 rfl (by decide +kernel) hdg kk
theorem gi_RX7_100 {p : Program} {l : Launch} {e : Env} {R : Room} {s : State} {m : MethodId} {args : Array Value} {below : List Frame} {meth : Method} {c : Code} {H : Heap} {locs : List Loc} {Qs : State → Prop} {cc : ByteArray} {pc nL o : Nat} {ls : Array Slot} {rest : List Value} {g : Gt} {lay : Nat → Lay} {N : Nat} {M : Mem} {fs : List (Option Nat)} (C : Cx p s m args c cc nL RX7 g) (w : Wd g lay N s.heap M H locs) (ho : o < N) (hl : lay o = .inl (3, fs)) (hf : fs[3]? = some none) (hdg : decode cc pc = .ok (.getfield 100, 3)) (kk : W p l e R s m args below meth c H locs 0 0 Qs (F0 m (pc + 3) ls (.int (M o 3) :: rest))) : W p l e R s m args below meth c H locs 0 0 Qs (F0 m pc ls (.ref (ga g o) :: rest)) := q_geti C w kc_X3 ho hl 3 hf (by decide) k_206 hdg kk
theorem pi_RX7_100 {p : Program} {l : Launch} {e : Env} {R : Room} {s : State} {m : MethodId} {args : Array Value} {below : List Frame} {meth : Method} {c : Code} {H : Heap} {locs : List Loc} {Qs : State → Prop} {cc : ByteArray} {pc nL o : Nat} {ls : Array Slot} {rest : List Value} {g : Gt} {lay : Nat → Lay} {N : Nat} {M : Mem} {fs : List (Option Nat)} (C : Cx p s m args c cc nL RX7 g) (w : Wd g lay N s.heap M H locs) (ho : o < N) (hl : lay o = .inl (3, fs)) {v : Int32} (hf : fs[3]? = some none) (hdg : decode cc pc = .ok (.putfield 100, 3)) (kk : ∀ (M1 : Mem) (H1 : Heap) (locs1 : List Loc), M1 = mu M o 3 v → Wd g lay N s.heap M1 H1 locs1 → W p l e R s m args below meth c H1 locs1 0 0 Qs (F0 m (pc + 3) ls rest)) : W p l e R s m args below meth c H locs 0 0 Qs (F0 m pc ls (.int v :: .ref (ga g o) :: rest)) := q_put C w kc_X3 ho hl 3 hf (by decide) k_206 rfl (by decide +kernel) hdg kk
theorem gi_RX7_103 {p : Program} {l : Launch} {e : Env} {R : Room} {s : State} {m : MethodId} {args : Array Value} {below : List Frame} {meth : Method} {c : Code} {H : Heap} {locs : List Loc} {Qs : State → Prop} {cc : ByteArray} {pc nL o : Nat} {ls : Array Slot} {rest : List Value} {g : Gt} {lay : Nat → Lay} {N : Nat} {M : Mem} {fs : List (Option Nat)} (C : Cx p s m args c cc nL RX7 g) (w : Wd g lay N s.heap M H locs) (ho : o < N) (hl : lay o = .inl (0, fs)) (hf : fs[9]? = some none) (hdg : decode cc pc = .ok (.getfield 103, 3)) (kk : W p l e R s m args below meth c H locs 0 0 Qs (F0 m (pc + 3) ls (.int (M o 9) :: rest))) : W p l e R s m args below meth c H locs 0 0 Qs (F0 m pc ls (.ref (ga g o) :: rest)) := q_geti C w kc_X0 ho hl 9 hf (by decide) k_207 hdg kk
theorem pi_RX7_103 {p : Program} {l : Launch} {e : Env} {R : Room} {s : State} {m : MethodId} {args : Array Value} {below : List Frame} {meth : Method} {c : Code} {H : Heap} {locs : List Loc} {Qs : State → Prop} {cc : ByteArray} {pc nL o : Nat} {ls : Array Slot} {rest : List Value} {g : Gt} {lay : Nat → Lay} {N : Nat} {M : Mem} {fs : List (Option Nat)} (C : Cx p s m args c cc nL RX7 g) (w : Wd g lay N s.heap M H locs) (ho : o < N) (hl : lay o = .inl (0, fs)) {v : Int32} (hf : fs[9]? = some none) (hdg : decode cc pc = .ok (.putfield 103, 3)) (kk : ∀ (M1 : Mem) (H1 : Heap) (locs1 : List Loc), M1 = mu M o 9 v → Wd g lay N s.heap M1 H1 locs1 → W p l e R s m args below meth c H1 locs1 0 0 Qs (F0 m (pc + 3) ls rest)) : W p l e R s m args below meth c H locs 0 0 Qs (F0 m pc ls (.int v :: .ref (ga g o) :: rest)) := q_put C w kc_X0 ho hl 9 hf (by decide) k_207 rfl (by decide +kernel) hdg kk
theorem gi_RX7_106 {p : Program} {l : Launch} {e : Env} {R : Room} {s : State} {m : MethodId} {args : Array Value} {below : List Frame} {meth : Method} {c : Code} {H : Heap} {locs : List Loc} {Qs : State → Prop} {cc : ByteArray} {pc nL o : Nat} {ls : Array Slot} {rest : List Value} {g : Gt} {lay : Nat → Lay} {N : Nat} {M : Mem} {fs : List (Option Nat)} (C : Cx p s m args c cc nL RX7 g) (w : Wd g lay N s.heap M H locs) (ho : o < N) (hl : lay o = .inl (0, fs)) (hf : fs[10]? = some none) (hdg : decode cc pc = .ok (.getfield 106, 3)) (kk : W p l e R s m args below meth c H locs 0 0 Qs (F0 m (pc + 3) ls (.int (M o 10) :: rest))) : W p l e R s m args below meth c H locs 0 0 Qs (F0 m pc ls (.ref (ga g o) :: rest)) := q_geti C w kc_X0 ho hl 10 hf (by decide) k_208 hdg kk
theorem pi_RX7_106 {p : Program} {l : Launch} {e : Env} {R : Room} {s : State} {m : MethodId} {args : Array Value} {below : List Frame} {meth : Method} {c : Code} {H : Heap} {locs : List Loc} {Qs : State → Prop} {cc : ByteArray} {pc nL o : Nat} {ls : Array Slot} {rest : List Value} {g : Gt} {lay : Nat → Lay} {N : Nat} {M : Mem} {fs : List (Option Nat)} (C : Cx p s m args c cc nL RX7 g) (w : Wd g lay N s.heap M H locs) (ho : o < N) (hl : lay o = .inl (0, fs)) {v : Int32} (hf : fs[10]? = some none) (hdg : decode cc pc = .ok (.putfield 106, 3)) (kk : ∀ (M1 : Mem) (H1 : Heap) (locs1 : List Loc), M1 = mu M o 10 v → Wd g lay N s.heap M1 H1 locs1 → W p l e R s m args below meth c H1 locs1 0 0 Qs (F0 m (pc + 3) ls rest)) : W p l e R s m args below meth c H locs 0 0 Qs (F0 m pc ls (.int v :: .ref (ga g o) :: rest)) := q_put C w kc_X0 ho hl 10 hf (by decide) k_208 rfl (by decide +kernel) hdg kk
theorem gi_RX7_109 {p : Program} {l : Launch} {e : Env} {R : Room} {s : State} {m : MethodId} {args : Array Value} {below : List Frame} {meth : Method} {c : Code} {H : Heap} {locs : List Loc} {Qs : State → Prop} {cc : ByteArray} {pc nL o : Nat} {ls : Array Slot} {rest : List Value} {g : Gt} {lay : Nat → Lay} {N : Nat} {M : Mem} {fs : List (Option Nat)} (C : Cx p s m args c cc nL RX7 g) (w : Wd g lay N s.heap M H locs) (ho : o < N) (hl : lay o = .inl (0, fs)) (hf : fs[11]? = some none) (hdg : decode cc pc = .ok (.getfield 109, 3)) (kk : W p l e R s m args below meth c H locs 0 0 Qs (F0 m (pc + 3) ls (.int (M o 11) :: rest))) : W p l e R s m args below meth c H locs 0 0 Qs (F0 m pc ls (.ref (ga g o) :: rest)) := q_geti C w kc_X0 ho hl 11 hf (by decide) k_209 hdg kk
theorem pi_RX7_109 {p : Program} {l : Launch} {e : Env} {R : Room} {s : State} {m : MethodId} {args : Array Value} {below : List Frame} {meth : Method} {c : Code} {H : Heap} {locs : List Loc} {Qs : State → Prop} {cc : ByteArray} {pc nL o : Nat} {ls : Array Slot} {rest : List Value} {g : Gt} {lay : Nat → Lay} {N : Nat} {M : Mem} {fs : List (Option Nat)} (C : Cx p s m args c cc nL RX7 g) (w : Wd g lay N s.heap M H locs) (ho : o < N) (hl : lay o = .inl (0, fs)) {v : Int32} (hf : fs[11]? = some none) (hdg : decode cc pc = .ok (.putfield 109, 3)) (kk : ∀ (M1 : Mem) (H1 : Heap) (locs1 : List Loc), M1 = mu M o 11 v → Wd g lay N s.heap M1 H1 locs1 → W p l e R s m args below meth c H1 locs1 0 0 Qs (F0 m (pc + 3) ls rest)) : W p l e R s m args below meth c H locs 0 0 Qs (F0 m pc ls (.int v :: .ref (ga g o) :: rest)) := q_put C w kc_X0 ho hl 11 hf (by decide) k_209 rfl (by decide +kernel) hdg kk
theorem gi_RX7_112 {p : Program} {l : Launch} {e : Env} {R : Room} {s : State} {m : MethodId} {args : Array Value} {below : List Frame} {meth : Method} {c : Code} {H : Heap} {locs : List Loc} {Qs : State → Prop} {cc : ByteArray} {pc nL o : Nat} {ls : Array Slot} {rest : List Value} {g : Gt} {lay : Nat → Lay} {N : Nat} {M : Mem} {fs : List (Option Nat)} (C : Cx p s m args c cc nL RX7 g) (w : Wd g lay N s.heap M H locs) (ho : o < N) (hl : lay o = .inl (0, fs)) (hf : fs[12]? = some none) (hdg : decode cc pc = .ok (.getfield 112, 3)) (kk : W p l e R s m args below meth c H locs 0 0 Qs (F0 m (pc + 3) ls (.int (M o 12) :: rest))) : W p l e R s m args below meth c H locs 0 0 Qs (F0 m pc ls (.ref (ga g o) :: rest)) := q_geti C w kc_X0 ho hl 12 hf (by decide) k_210 hdg kk
theorem pi_RX7_112 {p : Program} {l : Launch} {e : Env} {R : Room} {s : State} {m : MethodId} {args : Array Value} {below : List Frame} {meth : Method} {c : Code} {H : Heap} {locs : List Loc} {Qs : State → Prop} {cc : ByteArray} {pc nL o : Nat} {ls : Array Slot} {rest : List Value} {g : Gt} {lay : Nat → Lay} {N : Nat} {M : Mem} {fs : List (Option Nat)} (C : Cx p s m args c cc nL RX7 g) (w : Wd g lay N s.heap M H locs) (ho : o < N) (hl : lay o = .inl (0, fs)) {v : Int32} (hf : fs[12]? = some none) (hdg : decode cc pc = .ok (.putfield 112, 3)) (kk : ∀ (M1 : Mem) (H1 : Heap) (locs1 : List Loc), M1 = mu M o 12 v → Wd g lay N s.heap M1 H1 locs1 → W p l e R s m args below meth c H1 locs1 0 0 Qs (F0 m (pc + 3) ls rest)) : W p l e R s m args below meth c H locs 0 0 Qs (F0 m pc ls (.int v :: .ref (ga g o) :: rest)) := q_put C w kc_X0 ho hl 12 hf (by decide) k_210 rfl (by decide +kernel) hdg kk
theorem gr_RX7_131 {p : Program} {l : Launch} {e : Env} {R : Room} {s : State} {m : MethodId} {args : Array Value} {below : List Frame} {meth : Method} {c : Code} {H : Heap} {locs : List Loc} {Qs : State → Prop} {cc : ByteArray} {pc nL o : Nat} {ls : Array Slot} {rest : List Value} {g : Gt} {lay : Nat → Lay} {N : Nat} {M : Mem} {fs : List (Option Nat)} (C : Cx p s m args c cc nL RX7 g) (w : Wd g lay N s.heap M H locs) (ho : o < N) (hl : lay o = .inl (0, fs)) {x : Nat} (hf : fs[0]? = some (some x)) (hdg : decode cc pc = .ok (.getfield 131, 3)) (kk : W p l e R s m args below meth c H locs 0 0 Qs (F0 m (pc + 3) ls (.ref (ga g x) :: rest))) : W p l e R s m args below meth c H locs 0 0 Qs (F0 m pc ls (.ref (ga g o) :: rest)) := q_getr C w kc_X0 ho hl 0 hf (by decide) k_211 hdg kk
theorem gr_RX7_135 {p : Program} {l : Launch} {e : Env} {R : Room} {s : State} {m : MethodId} {args : Array Value} {below : List Frame} {meth : Method} {c : Code} {H : Heap} {locs : List Loc} {Qs : State → Prop} {cc : ByteArray} {pc nL o : Nat} {ls : Array Slot} {rest : List Value} {g : Gt} {lay : Nat → Lay} {N : Nat} {M : Mem} {fs : List (Option Nat)} (C : Cx p s m args c cc nL RX7 g) (w : Wd g lay N s.heap M H locs) (ho : o < N) (hl : lay o = .inl (0, fs)) {x : Nat} (hf : fs[1]? = some (some x)) (hdg : decode cc pc = .ok (.getfield 135, 3)) (kk : W p l e R s m args below meth c H locs 0 0 Qs (F0 m (pc + 3) ls (.ref (ga g x) :: rest))) : W p l e R s m args below meth c H locs 0 0 Qs (F0 m pc ls (.ref (ga g o) :: rest)) := q_getr C w kc_X0 ho hl 1 hf (by decide) k_212 hdg kk
theorem gr_RX7_148 {p : Program} {l : Launch} {e : Env} {R : Room} {s : State} {m : MethodId} {args : Array Value} {below : List Frame} {meth : Method} {c : Code} {H : Heap} {locs : List Loc} {Qs : State → Prop} {cc : ByteArray} {pc nL o : Nat} {ls : Array Slot} {rest : List Value} {g : Gt} {lay : Nat → Lay} {N : Nat} {M : Mem} {fs : List (Option Nat)} (C : Cx p s m args c cc nL RX7 g) (w : Wd g lay N s.heap M H locs) (ho : o < N) (hl : lay o = .inl (0, fs)) {x : Nat} (hf : fs[2]? = some (some x)) (hdg : decode cc pc = .ok (.getfield 148, 3)) (kk : W p l e R s m args below meth c H locs 0 0 Qs (F0 m (pc + 3) ls (.ref (ga g x) :: rest))) : W p l e R s m args below meth c H locs 0 0 Qs (F0 m pc ls (.ref (ga g o) :: rest)) := q_getr C w kc_X0 ho hl 2 hf (by decide) k_213 hdg kk
theorem gr_RX7_151 {p : Program} {l : Launch} {e : Env} {R : Room} {s : State} {m : MethodId} {args : Array Value} {below : List Frame} {meth : Method} {c : Code} {H : Heap} {locs : List Loc} {Qs : State → Prop} {cc : ByteArray} {pc nL o : Nat} {ls : Array Slot} {rest : List Value} {g : Gt} {lay : Nat → Lay} {N : Nat} {M : Mem} {fs : List (Option Nat)} (C : Cx p s m args c cc nL RX7 g) (w : Wd g lay N s.heap M H locs) (ho : o < N) (hl : lay o = .inl (0, fs)) {x : Nat} (hf : fs[3]? = some (some x)) (hdg : decode cc pc = .ok (.getfield 151, 3)) (kk : W p l e R s m args below meth c H locs 0 0 Qs (F0 m (pc + 3) ls (.ref (ga g x) :: rest))) : W p l e R s m args below meth c H locs 0 0 Qs (F0 m pc ls (.ref (ga g o) :: rest)) := q_getr C w kc_X0 ho hl 3 hf (by decide) k_214 hdg kk
theorem gr_RX7_154 {p : Program} {l : Launch} {e : Env} {R : Room} {s : State} {m : MethodId} {args : Array Value} {below : List Frame} {meth : Method} {c : Code} {H : Heap} {locs : List Loc} {Qs : State → Prop} {cc : ByteArray} {pc nL o : Nat} {ls : Array Slot} {rest : List Value} {g : Gt} {lay : Nat → Lay} {N : Nat} {M : Mem} {fs : List (Option Nat)} (C : Cx p s m args c cc nL RX7 g) (w : Wd g lay N s.heap M H locs) (ho : o < N) (hl : lay o = .inl (0, fs)) {x : Nat} (hf : fs[4]? = some (some x)) (hdg : decode cc pc = .ok (.getfield 154, 3)) (kk : W p l e R s m args below meth c H locs 0 0 Qs (F0 m (pc + 3) ls (.ref (ga g x) :: rest))) : W p l e R s m args below meth c H locs 0 0 Qs (F0 m pc ls (.ref (ga g o) :: rest)) := q_getr C w kc_X0 ho hl 4 hf (by decide) k_215 hdg kk
theorem gr_RX7_157 {p : Program} {l : Launch} {e : Env} {R : Room} {s : State} {m : MethodId} {args : Array Value} {below : List Frame} {meth : Method} {c : Code} {H : Heap} {locs : List Loc} {Qs : State → Prop} {cc : ByteArray} {pc nL o : Nat} {ls : Array Slot} {rest : List Value} {g : Gt} {lay : Nat → Lay} {N : Nat} {M : Mem} {fs : List (Option Nat)} (C : Cx p s m args c cc nL RX7 g) (w : Wd g lay N s.heap M H locs) (ho : o < N) (hl : lay o = .inl (0, fs)) {x : Nat} (hf : fs[5]? = some (some x)) (hdg : decode cc pc = .ok (.getfield 157, 3)) (kk : W p l e R s m args below meth c H locs 0 0 Qs (F0 m (pc + 3) ls (.ref (ga g x) :: rest))) : W p l e R s m args below meth c H locs 0 0 Qs (F0 m pc ls (.ref (ga g o) :: rest)) := q_getr C w kc_X0 ho hl 5 hf (by decide) k_216 hdg kk
theorem gr_RX7_169 {p : Program} {l : Launch} {e : Env} {R : Room} {s : State} {m : MethodId} {args : Array Value} {below : List Frame} {meth : Method} {c : Code} {H : Heap} {locs : List Loc} {Qs : State → Prop} {cc : ByteArray} {pc nL o : Nat} {ls : Array Slot} {rest : List Value} {g : Gt} {lay : Nat → Lay} {N : Nat} {M : Mem} {fs : List (Option Nat)} (C : Cx p s m args c cc nL RX7 g) (w : Wd g lay N s.heap M H locs) (ho : o < N) (hl : lay o = .inl (0, fs)) {x : Nat} (hf : fs[6]? = some (some x)) (hdg : decode cc pc = .ok (.getfield 169, 3)) (kk : W p l e R s m args below meth c H locs 0 0 Qs (F0 m (pc + 3) ls (.ref (ga g x) :: rest))) : W p l e R s m args below meth c H locs 0 0 Qs (F0 m pc ls (.ref (ga g o) :: rest)) := q_getr C w kc_X0 ho hl 6 hf (by decide) k_217 hdg kk
theorem gr_RX7_172 {p : Program} {l : Launch} {e : Env} {R : Room} {s : State} {m : MethodId} {args : Array Value} {below : List Frame} {meth : Method} {c : Code} {H : Heap} {locs : List Loc} {Qs : State → Prop} {cc : ByteArray} {pc nL o : Nat} {ls : Array Slot} {rest : List Value} {g : Gt} {lay : Nat → Lay} {N : Nat} {M : Mem} {fs : List (Option Nat)} (C : Cx p s m args c cc nL RX7 g) (w : Wd g lay N s.heap M H locs) (ho : o < N) (hl : lay o = .inl (0, fs)) {x : Nat} (hf : fs[7]? = some (some x)) (hdg : decode cc pc = .ok (.getfield 172, 3)) (kk : W p l e R s m args below meth c H locs 0 0 Qs (F0 m (pc + 3) ls (.ref (ga g x) :: rest))) : W p l e R s m args below meth c H locs 0 0 Qs (F0 m pc ls (.ref (ga g o) :: rest)) := q_getr C w kc_X0 ho hl 7 hf (by decide) k_218 hdg kk
theorem gr_RX7_175 {p : Program} {l : Launch} {e : Env} {R : Room} {s : State} {m : MethodId} {args : Array Value} {below : List Frame} {meth : Method} {c : Code} {H : Heap} {locs : List Loc} {Qs : State → Prop} {cc : ByteArray} {pc nL o : Nat} {ls : Array Slot} {rest : List Value} {g : Gt} {lay : Nat → Lay} {N : Nat} {M : Mem} {fs : List (Option Nat)} (C : Cx p s m args c cc nL RX7 g) (w : Wd g lay N s.heap M H locs) (ho : o < N) (hl : lay o = .inl (0, fs)) {x : Nat} (hf : fs[8]? = some (some x)) (hdg : decode cc pc = .ok (.getfield 175, 3)) (kk : W p l e R s m args below meth c H locs 0 0 Qs (F0 m (pc + 3) ls (.ref (ga g x) :: rest))) : W p l e R s m args below meth c H locs 0 0 Qs (F0 m pc ls (.ref (ga g o) :: rest)) := q_getr C w kc_X0 ho hl 8 hf (by decide) k_219 hdg kk
theorem gi_RX7_199 {p : Program} {l : Launch} {e : Env} {R : Room} {s : State} {m : MethodId} {args : Array Value} {below : List Frame} {meth : Method} {c : Code} {H : Heap} {locs : List Loc} {Qs : State → Prop} {cc : ByteArray} {pc nL o : Nat} {ls : Array Slot} {rest : List Value} {g : Gt} {lay : Nat → Lay} {N : Nat} {M : Mem} {fs : List (Option Nat)} (C : Cx p s m args c cc nL RX7 g) (w : Wd g lay N s.heap M H locs) (ho : o < N) (hl : lay o = .inl (6, fs)) (hf : fs[2]? = some none) (hdg : decode cc pc = .ok (.getfield 199, 3)) (kk : W p l e R s m args below meth c H locs 0 0 Qs (F0 m (pc + 3) ls (.int (M o 2) :: rest))) : W p l e R s m args below meth c H locs 0 0 Qs (F0 m pc ls (.ref (ga g o) :: rest)) := q_geti C w kc_X6 ho hl 2 hf (by decide) k_220 hdg kk
theorem pi_RX7_199 {p : Program} {l : Launch} {e : Env} {R : Room} {s : State} {m : MethodId} {args : Array Value} {below : List Frame} {meth : Method} {c : Code} {H : Heap} {locs : List Loc} {Qs : State → Prop} {cc : ByteArray} {pc nL o : Nat} {ls : Array Slot} {rest : List Value} {g : Gt} {lay : Nat → Lay} {N : Nat} {M : Mem} {fs : List (Option Nat)} (C : Cx p s m args c cc nL RX7 g) (w : Wd g lay N s.heap M H locs) (ho : o < N) (hl : lay o = .inl (6, fs)) {v : Int32} (hf : fs[2]? = some none) (hdg : decode cc pc = .ok (.putfield 199, 3)) (kk : ∀ (M1 : Mem) (H1 : Heap) (locs1 : List Loc), M1 = mu M o 2 v → Wd g lay N s.heap M1 H1 locs1 → W p l e R s m args below meth c H1 locs1 0 0 Qs (F0 m (pc + 3) ls rest)) : W p l e R s m args below meth c H locs 0 0 Qs (F0 m pc ls (.int v :: .ref (ga g o) :: rest)) := q_put C w kc_X6 ho hl 2 hf (by decide) k_220 rfl (by decide +kernel) hdg kk
theorem gi_RX7_202 {p : Program} {l : Launch} {e : Env} {R : Room} {s : State} {m : MethodId} {args : Array Value} {below : List Frame} {meth : Method} {c : Code} {H : Heap} {locs : List Loc} {Qs : State → Prop} {cc : ByteArray} {pc nL o : Nat} {ls : Array Slot} {rest : List Value} {g : Gt} {lay : Nat → Lay} {N : Nat} {M : Mem} {fs : List (Option Nat)} (C : Cx p s m args c cc nL RX7 g) (w : Wd g lay N s.heap M H locs) (ho : o < N) (hl : lay o = .inl (6, fs)) (hf : fs[4]? = some none) (hdg : decode cc pc = .ok (.getfield 202, 3)) (kk : W p l e R s m args below meth c H locs 0 0 Qs (F0 m (pc + 3) ls (.int (M o 4) :: rest))) : W p l e R s m args below meth c H locs 0 0 Qs (F0 m pc ls (.ref (ga g o) :: rest)) := q_geti C w kc_X6 ho hl 4 hf (by decide) k_221 hdg kk
theorem pi_RX7_202 {p : Program} {l : Launch} {e : Env} {R : Room} {s : State} {m : MethodId} {args : Array Value} {below : List Frame} {meth : Method} {c : Code} {H : Heap} {locs : List Loc} {Qs : State → Prop} {cc : ByteArray} {pc nL o : Nat} {ls : Array Slot} {rest : List Value} {g : Gt} {lay : Nat → Lay} {N : Nat} {M : Mem} {fs : List (Option Nat)} (C : Cx p s m args c cc nL RX7 g) (w : Wd g lay N s.heap M H locs) (ho : o < N) (hl : lay o = .inl (6, fs)) {v : Int32} (hf : fs[4]? = some none) (hdg : decode cc pc = .ok (.putfield 202, 3)) (kk : ∀ (M1 : Mem) (H1 : Heap) (locs1 : List Loc), M1 = mu M o 4 v → Wd g lay N s.heap M1 H1 locs1 → W p l e R s m args below meth c H1 locs1 0 0 Qs (F0 m (pc + 3) ls rest)) : W p l e R s m args below meth c H locs 0 0 Qs (F0 m pc ls (.int v :: .ref (ga g o) :: rest)) := q_put C w kc_X6 ho hl 4 hf (by decide) k_221 rfl (by decide +kernel) hdg kk
theorem gi_RX7_205 {p : Program} {l : Launch} {e : Env} {R : Room} {s : State} {m : MethodId} {args : Array Value} {below : List Frame} {meth : Method} {c : Code} {H : Heap} {locs : List Loc} {Qs : State → Prop} {cc : ByteArray} {pc nL o : Nat} {ls : Array Slot} {rest : List Value} {g : Gt} {lay : Nat → Lay} {N : Nat} {M : Mem} {fs : List (Option Nat)} (C : Cx p s m args c cc nL RX7 g) (w : Wd g lay N s.heap M H locs) (ho : o < N) (hl : lay o = .inl (6, fs)) (hf : fs[3]? = some none) (hdg : decode cc pc = .ok (.getfield 205, 3)) (kk : W p l e R s m args below meth c H locs 0 0 Qs (F0 m (pc + 3) ls (.int (M o 3) :: rest))) : W p l e R s m args below meth c H locs 0 0 Qs (F0 m pc ls (.ref (ga g o) :: rest)) := q_geti C w kc_X6 ho hl 3 hf (by decide) k_222 hdg kk
theorem pi_RX7_205 {p : Program} {l : Launch} {e : Env} {R : Room} {s : State} {m : MethodId} {args : Array Value} {below : List Frame} {meth : Method} {c : Code} {H : Heap} {locs : List Loc} {Qs : State → Prop} {cc : ByteArray} {pc nL o : Nat} {ls : Array Slot} {rest : List Value} {g : Gt} {lay : Nat → Lay} {N : Nat} {M : Mem} {fs : List (Option Nat)} (C : Cx p s m args c cc nL RX7 g) (w : Wd g lay N s.heap M H locs) (ho : o < N) (hl : lay o = .inl (6, fs)) {v : Int32} (hf : fs[3]? = some none) (hdg : decode cc pc = .ok (.putfield 205, 3)) (kk : ∀ (M1 : Mem) (H1 : Heap) (locs1 : List Loc), M1 = mu M o 3 v → Wd g lay N s.heap M1 H1 locs1 → W p l e R s m args below meth c H1 locs1 0 0 Qs (F0 m (pc + 3) ls rest)) : W p l e R s m args below meth c H locs 0 0 Qs (F0 m pc ls (.int v :: .ref (ga g o) :: rest)) := q_put C w kc_X6 ho hl 3 hf (by decide) k_222 rfl (by decide +kernel) hdg kk
theorem gi_RX7_208 {p : Program} {l : Launch} {e : Env} {R : Room} {s : State} {m : MethodId} {args : Array Value} {below : List Frame} {meth : Method} {c : Code} {H : Heap} {locs : List Loc} {Qs : State → Prop} {cc : ByteArray} {pc nL o : Nat} {ls : Array Slot} {rest : List Value} {g : Gt} {lay : Nat → Lay} {N : Nat} {M : Mem} {fs : List (Option Nat)} (C : Cx p s m args c cc nL RX7 g) (w : Wd g lay N s.heap M H locs) (ho : o < N) (hl : lay o = .inl (6, fs)) (hf : fs[5]? = some none) (hdg : decode cc pc = .ok (.getfield 208, 3)) (kk : W p l e R s m args below meth c H locs 0 0 Qs (F0 m (pc + 3) ls (.int (M o 5) :: rest))) : W p l e R s m args below meth c H locs 0 0 Qs (F0 m pc ls (.ref (ga g o) :: rest)) := q_geti C w kc_X6 ho hl 5 hf (by decide) k_223 hdg kk
theorem pi_RX7_208 {p : Program} {l : Launch} {e : Env} {R : Room} {s : State} {m : MethodId} {args : Array Value} {below : List Frame} {meth : Method} {c : Code} {H : Heap} {locs : List Loc} {Qs : State → Prop} {cc : ByteArray} {pc nL o : Nat} {ls : Array Slot} {rest : List Value} {g : Gt} {lay : Nat → Lay} {N : Nat} {M : Mem} {fs : List (Option Nat)} (C : Cx p s m args c cc nL RX7 g) (w : Wd g lay N s.heap M H locs) (ho : o < N) (hl : lay o = .inl (6, fs)) {v : Int32} (hf : fs[5]? = some none) (hdg : decode cc pc = .ok (.putfield 208, 3)) (kk : ∀ (M1 : Mem) (H1 : Heap) (locs1 : List Loc), M1 = mu M o 5 v → Wd g lay N s.heap M1 H1 locs1 → W p l e R s m args below meth c H1 locs1 0 0 Qs (F0 m (pc + 3) ls rest)) : W p l e R s m args below meth c H locs 0 0 Qs (F0 m pc ls (.int v :: .ref (ga g o) :: rest)) := q_put C w kc_X6 ho hl 5 hf (by decide) k_223 rfl (by decide +kernel) hdg kk
theorem gi_RX7_261 {p : Program} {l : Launch} {e : Env} {R : Room} {s : State} {m : MethodId} {args : Array Value} {below : List Frame} {meth : Method} {c : Code} {H : Heap} {locs : List Loc} {Qs : State → Prop} {cc : ByteArray} {pc nL o : Nat} {ls : Array Slot} {rest : List Value} {g : Gt} {lay : Nat → Lay} {N : Nat} {M : Mem} {fs : List (Option Nat)} (C : Cx p s m args c cc nL RX7 g) (w : Wd g lay N s.heap M H locs) (ho : o < N) (hl : lay o = .inl (1, fs)) (hf : fs[1]? = some none) (hdg : decode cc pc = .ok (.getfield 261, 3)) (kk : W p l e R s m args below meth c H locs 0 0 Qs (F0 m (pc + 3) ls (.int (M o 1) :: rest))) : W p l e R s m args below meth c H locs 0 0 Qs (F0 m pc ls (.ref (ga g o) :: rest)) := q_geti C w kc_X1 ho hl 1 hf (by decide) k_224 hdg kk
theorem pi_RX7_261 {p : Program} {l : Launch} {e : Env} {R : Room} {s : State} {m : MethodId} {args : Array Value} {below : List Frame} {meth : Method} {c : Code} {H : Heap} {locs : List Loc} {Qs : State → Prop} {cc : ByteArray} {pc nL o : Nat} {ls : Array Slot} {rest : List Value} {g : Gt} {lay : Nat → Lay} {N : Nat} {M : Mem} {fs : List (Option Nat)} (C : Cx p s m args c cc nL RX7 g) (w : Wd g lay N s.heap M H locs) (ho : o < N) (hl : lay o = .inl (1, fs)) {v : Int32} (hf : fs[1]? = some none) (hdg : decode cc pc = .ok (.putfield 261, 3)) (kk : ∀ (M1 : Mem) (H1 : Heap) (locs1 : List Loc), M1 = mu M o 1 v → Wd g lay N s.heap M1 H1 locs1 → W p l e R s m args below meth c H1 locs1 0 0 Qs (F0 m (pc + 3) ls rest)) : W p l e R s m args below meth c H locs 0 0 Qs (F0 m pc ls (.int v :: .ref (ga g o) :: rest)) := q_put C w kc_X1 ho hl 1 hf (by decide) k_224 rfl (by decide +kernel) hdg kk
theorem gr_RX7_286 {p : Program} {l : Launch} {e : Env} {R : Room} {s : State} {m : MethodId} {args : Array Value} {below : List Frame} {meth : Method} {c : Code} {H : Heap} {locs : List Loc} {Qs : State → Prop} {cc : ByteArray} {pc nL o : Nat} {ls : Array Slot} {rest : List Value} {g : Gt} {lay : Nat → Lay} {N : Nat} {M : Mem} {fs : List (Option Nat)} (C : Cx p s m args c cc nL RX7 g) (w : Wd g lay N s.heap M H locs) (ho : o < N) (hl : lay o = .inl (2, fs)) {x : Nat} (hf : fs[0]? = some (some x)) (hdg : decode cc pc = .ok (.getfield 286, 3)) (kk : W p l e R s m args below meth c H locs 0 0 Qs (F0 m (pc + 3) ls (.ref (ga g x) :: rest))) : W p l e R s m args below meth c H locs 0 0 Qs (F0 m pc ls (.ref (ga g o) :: rest)) := q_getr C w kc_X2 ho hl 0 hf (by decide) k_225 hdg kk
theorem gi_RX7_292 {p : Program} {l : Launch} {e : Env} {R : Room} {s : State} {m : MethodId} {args : Array Value} {below : List Frame} {meth : Method} {c : Code} {H : Heap} {locs : List Loc} {Qs : State → Prop} {cc : ByteArray} {pc nL o : Nat} {ls : Array Slot} {rest : List Value} {g : Gt} {lay : Nat → Lay} {N : Nat} {M : Mem} {fs : List (Option Nat)} (C : Cx p s m args c cc nL RX7 g) (w : Wd g lay N s.heap M H locs) (ho : o < N) (hl : lay o = .inl (7, fs)) (hf : fs[10]? = some none) (hdg : decode cc pc = .ok (.getfield 292, 3)) (kk : W p l e R s m args below meth c H locs 0 0 Qs (F0 m (pc + 3) ls (.int (M o 10) :: rest))) : W p l e R s m args below meth c H locs 0 0 Qs (F0 m pc ls (.ref (ga g o) :: rest)) := q_geti C w kc_X7 ho hl 10 hf (by decide) k_226 hdg kk
theorem pi_RX7_292 {p : Program} {l : Launch} {e : Env} {R : Room} {s : State} {m : MethodId} {args : Array Value} {below : List Frame} {meth : Method} {c : Code} {H : Heap} {locs : List Loc} {Qs : State → Prop} {cc : ByteArray} {pc nL o : Nat} {ls : Array Slot} {rest : List Value} {g : Gt} {lay : Nat → Lay} {N : Nat} {M : Mem} {fs : List (Option Nat)} (C : Cx p s m args c cc nL RX7 g) (w : Wd g lay N s.heap M H locs) (ho : o < N) (hl : lay o = .inl (7, fs)) {v : Int32} (hf : fs[10]? = some none) (hdg : decode cc pc = .ok (.putfield 292, 3)) (kk : ∀ (M1 : Mem) (H1 : Heap) (locs1 : List Loc), M1 = mu M o 10 v → Wd g lay N s.heap M1 H1 locs1 → W p l e R s m args below meth c H1 locs1 0 0 Qs (F0 m (pc + 3) ls rest)) : W p l e R s m args below meth c H locs 0 0 Qs (F0 m pc ls (.int v :: .ref (ga g o) :: rest)) := q_put C w kc_X7 ho hl 10 hf (by decide) k_226 rfl (by decide +kernel) hdg kk
theorem gi_RX7_295 {p : Program} {l : Launch} {e : Env} {R : Room} {s : State} {m : MethodId} {args : Array Value} {below : List Frame} {meth : Method} {c : Code} {H : Heap} {locs : List Loc} {Qs : State → Prop} {cc : ByteArray} {pc nL o : Nat} {ls : Array Slot} {rest : List Value} {g : Gt} {lay : Nat → Lay} {N : Nat} {M : Mem} {fs : List (Option Nat)} (C : Cx p s m args c cc nL RX7 g) (w : Wd g lay N s.heap M H locs) (ho : o < N) (hl : lay o = .inl (2, fs)) (hf : fs[1]? = some none) (hdg : decode cc pc = .ok (.getfield 295, 3)) (kk : W p l e R s m args below meth c H locs 0 0 Qs (F0 m (pc + 3) ls (.int (M o 1) :: rest))) : W p l e R s m args below meth c H locs 0 0 Qs (F0 m pc ls (.ref (ga g o) :: rest)) := q_geti C w kc_X2 ho hl 1 hf (by decide) k_227 hdg kk
theorem pi_RX7_295 {p : Program} {l : Launch} {e : Env} {R : Room} {s : State} {m : MethodId} {args : Array Value} {below : List Frame} {meth : Method} {c : Code} {H : Heap} {locs : List Loc} {Qs : State → Prop} {cc : ByteArray} {pc nL o : Nat} {ls : Array Slot} {rest : List Value} {g : Gt} {lay : Nat → Lay} {N : Nat} {M : Mem} {fs : List (Option Nat)} (C : Cx p s m args c cc nL RX7 g) (w : Wd g lay N s.heap M H locs) (ho : o < N) (hl : lay o = .inl (2, fs)) {v : Int32} (hf : fs[1]? = some none) (hdg : decode cc pc = .ok (.putfield 295, 3)) (kk : ∀ (M1 : Mem) (H1 : Heap) (locs1 : List Loc), M1 = mu M o 1 v → Wd g lay N s.heap M1 H1 locs1 → W p l e R s m args below meth c H1 locs1 0 0 Qs (F0 m (pc + 3) ls rest)) : W p l e R s m args below meth c H locs 0 0 Qs (F0 m pc ls (.int v :: .ref (ga g o) :: rest)) := q_put C w kc_X2 ho hl 1 hf (by decide) k_227 rfl (by decide +kernel) hdg kk
theorem gr_RX8_7 {p : Program} {l : Launch} {e : Env} {R : Room} {s : State} {m : MethodId} {args : Array Value} {below : List Frame} {meth : Method} {c : Code} {H : Heap} {locs : List Loc} {Qs : State → Prop} {cc : ByteArray} {pc nL o : Nat} {ls : Array Slot} {rest : List Value} {g : Gt} {lay : Nat → Lay} {N : Nat} {M : Mem} {fs : List (Option Nat)} (C : Cx p s m args c cc nL RX8 g) (w : Wd g lay N s.heap M H locs) (ho : o < N) (hl : lay o = .inl (8, fs)) {x : Nat} (hf : fs[0]? = some (some x)) (hdg : decode cc pc = .ok (.getfield 7, 3)) (kk : W p l e R s m args below meth c H locs 0 0 Qs (F0 m (pc + 3) ls (.ref (ga g x) :: rest))) : W p l e R s m args below meth c H locs 0 0 Qs (F0 m pc ls (.ref (ga g o) :: rest)) := q_getr C w kc_X8 ho hl 0 hf (by decide) k_228 hdg kk
theorem gr_RX8_13 {p : Program} {l : Launch} {e : Env} {R : Room} {s : State} {m : MethodId} {args : Array Value} {below : List Frame} {meth : Method} {c : Code} {H : Heap} {locs : List Loc} {Qs : State → Prop} {cc : ByteArray} {pc nL o : Nat} {ls : Array Slot} {rest : List Value} {g : Gt} {lay : Nat → Lay} {N : Nat} {M : Mem} {fs : List (Option Nat)} (C : Cx p s m args c cc nL RX8 g) (w : Wd g lay N s.heap M H locs) (ho : o < N) (hl : lay o = .inl (8, fs)) {x : Nat} (hf : fs[2]? = some (some x)) (hdg : decode cc pc = .ok (.getfield 13, 3)) (kk : W p l e R s m args below meth c H locs 0 0 Qs (F0 m (pc + 3) ls (.ref (ga g x) :: rest))) : W p l e R s m args below meth c H locs 0 0 Qs (F0 m pc ls (.ref (ga g o) :: rest)) := q_getr C w kc_X8 ho hl 2 hf (by decide) k_229 hdg kk
theorem gr_RX8_16 {p : Program} {l : Launch} {e : Env} {R : Room} {s : State} {m : MethodId} {args : Array Value} {below : List Frame} {meth : Method} {c : Code} {H : Heap} {locs : List Loc} {Qs : State → Prop} {cc : ByteArray} {pc nL o : Nat} {ls : Array Slot} {rest : List Value} {g : Gt} {lay : Nat → Lay} {N : Nat} {M : Mem} {fs : List (Option Nat)} (C : Cx p s m args c cc nL RX8 g) (w : Wd g lay N s.heap M H locs) (ho : o < N) (hl : lay o = .inl (8, fs)) {x : Nat} (hf : fs[5]? = some (some x)) (hdg : decode cc pc = .ok (.getfield 16, 3)) (kk : W p l e R s m args below meth c H locs 0 0 Qs (F0 m (pc + 3) ls (.ref (ga g x) :: rest))) : W p l e R s m args below meth c H locs 0 0 Qs (F0 m pc ls (.ref (ga g o) :: rest)) := q_getr C w kc_X8 ho hl 5 hf (by decide) k_230 hdg kk
theorem gr_RX8_19 {p : Program} {l : Launch} {e : Env} {R : Room} {s : State} {m : MethodId} {args : Array Value} {below : List Frame} {meth : Method} {c : Code} {H : Heap} {locs : List Loc} {Qs : State → Prop} {cc : ByteArray} {pc nL o : Nat} {ls : Array Slot} {rest : List Value} {g : Gt} {lay : Nat → Lay} {N : Nat} {M : Mem} {fs : List (Option Nat)} (C : Cx p s m args c cc nL RX8 g) (w : Wd g lay N s.heap M H locs) (ho : o < N) (hl : lay o = .inl (8, fs)) {x : Nat} (hf : fs[14]? = some (some x)) (hdg : decode cc pc = .ok (.getfield 19, 3)) (kk : W p l e R s m args below meth c H locs 0 0 Qs (F0 m (pc + 3) ls (.ref (ga g x) :: rest))) : W p l e R s m args below meth c H locs 0 0 Qs (F0 m pc ls (.ref (ga g o) :: rest)) := q_getr C w kc_X8 ho hl 14 hf (by decide) k_231 hdg kk
theorem gr_RX8_22 {p : Program} {l : Launch} {e : Env} {R : Room} {s : State} {m : MethodId} {args : Array Value} {below : List Frame} {meth : Method} {c : Code} {H : Heap} {locs : List Loc} {Qs : State → Prop} {cc : ByteArray} {pc nL o : Nat} {ls : Array Slot} {rest : List Value} {g : Gt} {lay : Nat → Lay} {N : Nat} {M : Mem} {fs : List (Option Nat)} (C : Cx p s m args c cc nL RX8 g) (w : Wd g lay N s.heap M H locs) (ho : o < N) (hl : lay o = .inl (8, fs)) {x : Nat} (hf : fs[15]? = some (some x)) (hdg : decode cc pc = .ok (.getfield 22, 3)) (kk : W p l e R s m args below meth c H locs 0 0 Qs (F0 m (pc + 3) ls (.ref (ga g x) :: rest))) : W p l e R s m args below meth c H locs 0 0 Qs (F0 m pc ls (.ref (ga g o) :: rest)) := q_getr C w kc_X8 ho hl 15 hf (by decide) k_232 hdg kk
theorem gr_RX8_25 {p : Program} {l : Launch} {e : Env} {R : Room} {s : State} {m : MethodId} {args : Array Value} {below : List Frame} {meth : Method} {c : Code} {H : Heap} {locs : List Loc} {Qs : State → Prop} {cc : ByteArray} {pc nL o : Nat} {ls : Array Slot} {rest : List Value} {g : Gt} {lay : Nat → Lay} {N : Nat} {M : Mem} {fs : List (Option Nat)} (C : Cx p s m args c cc nL RX8 g) (w : Wd g lay N s.heap M H locs) (ho : o < N) (hl : lay o = .inl (8, fs)) {x : Nat} (hf : fs[20]? = some (some x)) (hdg : decode cc pc = .ok (.getfield 25, 3)) (kk : W p l e R s m args below meth c H locs 0 0 Qs (F0 m (pc + 3) ls (.ref (ga g x) :: rest))) : W p l e R s m args below meth c H locs 0 0 Qs (F0 m pc ls (.ref (ga g o) :: rest)) := q_getr C w kc_X8 ho hl 20 hf (by decide) k_233 hdg kk
theorem gr_RX8_28 {p : Program} {l : Launch} {e : Env} {R : Room} {s : State} {m : MethodId} {args : Array Value} {below : List Frame} {meth : Method} {c : Code} {H : Heap} {locs : List Loc} {Qs : State → Prop} {cc : ByteArray} {pc nL o : Nat} {ls : Array Slot} {rest : List Value} {g : Gt} {lay : Nat → Lay} {N : Nat} {M : Mem} {fs : List (Option Nat)} (C : Cx p s m args c cc nL RX8 g) (w : Wd g lay N s.heap M H locs) (ho : o < N) (hl : lay o = .inl (8, fs)) {x : Nat} (hf : fs[22]? = some (some x)) (hdg : decode cc pc = .ok (.getfield 28, 3)) (kk : W p l e R s m args below meth c H locs 0 0 Qs (F0 m (pc + 3) ls (.ref (ga g x) :: rest))) : W p l e R s m args below meth c H locs 0 0 Qs (F0 m pc ls (.ref (ga g o) :: rest)) := q_getr C w kc_X8 ho hl 22 hf (by decide) k_234 hdg kk
theorem gr_RX8_31 {p : Program} {l : Launch} {e : Env} {R : Room} {s : State} {m : MethodId} {args : Array Value} {below : List Frame} {meth : Method} {c : Code} {H : Heap} {locs : List Loc} {Qs : State → Prop} {cc : ByteArray} {pc nL o : Nat} {ls : Array Slot} {rest : List Value} {g : Gt} {lay : Nat → Lay} {N : Nat} {M : Mem} {fs : List (Option Nat)} (C : Cx p s m args c cc nL RX8 g) (w : Wd g lay N s.heap M H locs) (ho : o < N) (hl : lay o = .inl (8, fs)) {x : Nat} (hf : fs[23]? = some (some x)) (hdg : decode cc pc = .ok (.getfield 31, 3)) (kk : W p l e R s m args below meth c H locs 0 0 Qs (F0 m (pc + 3) ls (.ref (ga g x) :: rest))) : W p l e R s m args below meth c H locs 0 0 Qs (F0 m pc ls (.ref (ga g o) :: rest)) := q_getr C w kc_X8 ho hl 23 hf (by decide) k_235 hdg kk
theorem gr_RX8_35 {p : Program} {l : Launch} {e : Env} {R : Room} {s : State} {m : MethodId} {args : Array Value} {below : List Frame} {meth : Method} {c : Code} {H : Heap} {locs : List Loc} {Qs : State → Prop} {cc : ByteArray} {pc nL o : Nat} {ls : Array Slot} {rest : List Value} {g : Gt} {lay : Nat → Lay} {N : Nat} {M : Mem} {fs : List (Option Nat)} (C : Cx p s m args c cc nL RX8 g) (w : Wd g lay N s.heap M H locs) (ho : o < N) (hl : lay o = .inl (8, fs)) {x : Nat} (hf : fs[24]? = some (some x)) (hdg : decode cc pc = .ok (.getfield 35, 3)) (kk : W p l e R s m args below meth c H locs 0 0 Qs (F0 m (pc + 3) ls (.ref (ga g x) :: rest))) : W p l e R s m args below meth c H locs 0 0 Qs (F0 m pc ls (.ref (ga g o) :: rest)) := q_getr C w kc_X8 ho hl 24 hf (by decide) k_236 hdg kk
theorem gr_RX8_38 {p : Program} {l : Launch} {e : Env} {R : Room} {s : State} {m : MethodId} {args : Array Value} {below : List Frame} {meth : Method} {c : Code} {H : Heap} {locs : List Loc} {Qs : State → Prop} {cc : ByteArray} {pc nL o : Nat} {ls : Array Slot} {rest : List Value} {g : Gt} {lay : Nat → Lay} {N : Nat} {M : Mem} {fs : List (Option Nat)} (C : Cx p s m args c cc nL RX8 g) (w : Wd g lay N s.heap M H locs) (ho : o < N) (hl : lay o = .inl (8, fs)) {x : Nat} (hf : fs[25]? = some (some x)) (hdg : decode cc pc = .ok (.getfield 38, 3)) (kk : W p l e R s m args below meth c H locs 0 0 Qs (F0 m (pc + 3) ls (.ref (ga g x) :: rest))) : W p l e R s m args below meth c H locs 0 0 Qs (F0 m pc ls (.ref (ga g o) :: rest)) := q_getr C w kc_X8 ho hl 25 hf (by decide) k_237 hdg kk
theorem gr_RX8_41 {p : Program} {l : Launch} {e : Env} {R : Room} {s : State} {m : MethodId} {args : Array Value} {below : List Frame} {meth : Method} {c : Code} {H : Heap} {locs : List Loc} {Qs : State → Prop} {cc : ByteArray} {pc nL o : Nat} {ls : Array Slot} {rest : List Value} {g : Gt} {lay : Nat → Lay} {N : Nat} {M : Mem} {fs : List (Option Nat)} (C : Cx p s m args c cc nL RX8 g) (w : Wd g lay N s.heap M H locs) (ho : o < N) (hl : lay o = .inl (8, fs)) {x : Nat} (hf : fs[26]? = some (some x)) (hdg : decode cc pc = .ok (.getfield 41, 3)) (kk : W p l e R s m args below meth c H locs 0 0 Qs (F0 m (pc + 3) ls (.ref (ga g x) :: rest))) : W p l e R s m args below meth c H locs 0 0 Qs (F0 m pc ls (.ref (ga g o) :: rest)) := q_getr C w kc_X8 ho hl 26 hf (by decide) k_238 hdg kk
theorem gi_RX8_50 {p : Program} {l : Launch} {e : Env} {R : Room} {s : State} {m : MethodId} {args : Array Value} {below : List Frame} {meth : Method} {c : Code} {H : Heap} {locs : List Loc} {Qs : State → Prop} {cc : ByteArray} {pc nL o : Nat} {ls : Array Slot} {rest : List Value} {g : Gt} {lay : Nat → Lay} {N : Nat} {M : Mem} {fs : List (Option Nat)} (C : Cx p s m args c cc nL RX8 g) (w : Wd g lay N s.heap M H locs) (ho : o < N) (hl : lay o = .inl (8, fs)) (hf : fs[6]? = some none) (hdg : decode cc pc = .ok (.getfield 50, 3)) (kk : W p l e R s m args below meth c H locs 0 0 Qs (F0 m (pc + 3) ls (.int (M o 6) :: rest))) : W p l e R s m args below meth c H locs 0 0 Qs (F0 m pc ls (.ref (ga g o) :: rest)) := q_geti C w kc_X8 ho hl 6 hf (by decide) k_239 hdg kk
theorem pi_RX8_50 {p : Program} {l : Launch} {e : Env} {R : Room} {s : State} {m : MethodId} {args : Array Value} {below : List Frame} {meth : Method} {c : Code} {H : Heap} {locs : List Loc} {Qs : State → Prop} {cc : ByteArray} {pc nL o : Nat} {ls : Array Slot} {rest : List Value} {g : Gt} {lay : Nat → Lay} {N : Nat} {M : Mem} {fs : List (Option Nat)} (C : Cx p s m args c cc nL RX8 g) (w : Wd g lay N s.heap M H locs) (ho : o < N) (hl : lay o = .inl (8, fs)) {v : Int32} (hf : fs[6]? = some none) (hdg : decode cc pc = .ok (.putfield 50, 3)) (kk : ∀ (M1 : Mem) (H1 : Heap) (locs1 : List Loc), M1 = mu M o 6 v → Wd g lay N s.heap M1 H1 locs1 → W p l e R s m args below meth c H1 locs1 0 0 Qs (F0 m (pc + 3) ls rest)) : W p l e R s m args below meth c H locs 0 0 Qs (F0 m pc ls (.int v :: .ref (ga g o) :: rest)) := q_put C w kc_X8 ho hl 6 hf (by decide) k_239 rfl (by decide +kernel) hdg kk
theorem gi_RX8_54 {p : Program} {l : Launch} {e : Env} {R : Room} {s : State} {m : MethodId} {args : Array Value} {below : List Frame} {meth : Method} {c : Code} {H : Heap} {locs : List Loc} {Qs : State → Prop} {cc : ByteArray} {pc nL o : Nat} {ls : Array Slot} {rest : List Value} {g : Gt} {lay : Nat → Lay} {N : Nat} {M : Mem} {fs : List (Option Nat)} (C : Cx p s m args c cc nL RX8 g) (w : Wd g lay N s.heap M H locs) (ho : o < N) (hl : lay o = .inl (8, fs)) (hf : fs[8]? = some none) (hdg : decode cc pc = .ok (.getfield 54, 3)) (kk : W p l e R s m args below meth c H locs 0 0 Qs (F0 m (pc + 3) ls (.int (M o 8) :: rest))) : W p l e R s m args below meth c H locs 0 0 Qs (F0 m pc ls (.ref (ga g o) :: rest)) := q_geti C w kc_X8 ho hl 8 hf (by decide) k_240 hdg kk
theorem pi_RX8_54 {p : Program} {l : Launch} {e : Env} {R : Room} {s : State} {m : MethodId} {args : Array Value} {below : List Frame} {meth : Method} {c : Code} {H : Heap} {locs : List Loc} {Qs : State → Prop} {cc : ByteArray} {pc nL o : Nat} {ls : Array Slot} {rest : List Value} {g : Gt} {lay : Nat → Lay} {N : Nat} {M : Mem} {fs : List (Option Nat)} (C : Cx p s m args c cc nL RX8 g) (w : Wd g lay N s.heap M H locs) (ho : o < N) (hl : lay o = .inl (8, fs)) {v : Int32} (hf : fs[8]? = some none) (hdg : decode cc pc = .ok (.putfield 54, 3)) (kk : ∀ (M1 : Mem) (H1 : Heap) (locs1 : List Loc), M1 = mu M o 8 v → Wd g lay N s.heap M1 H1 locs1 → W p l e R s m args below meth c H1 locs1 0 0 Qs (F0 m (pc + 3) ls rest)) : W p l e R s m args below meth c H locs 0 0 Qs (F0 m pc ls (.int v :: .ref (ga g o) :: rest)) := q_put C w kc_X8 ho hl 8 hf (by decide) k_240 rfl (by decide +kernel) hdg kk
theorem gi_RX8_57 {p : Program} {l : Launch} {e : Env} {R : Room} {s : State} {m : MethodId} {args : Array Value} {below : List Frame} {meth : Method} {c : Code} {H : Heap} {locs : List Loc} {Qs : State → Prop} {cc : ByteArray} {pc nL o : Nat} {ls : Array Slot} {rest : List Value} {g : Gt} {lay : Nat → Lay} {N : Nat} {M : Mem} {fs : List (Option Nat)} (C : Cx p s m args c cc nL RX8 g) (w : Wd g lay N s.heap M H locs) (ho : o < N) (hl : lay o = .inl (8, fs)) (hf : fs[11]? = some none) (hdg : decode cc pc = .ok (.getfield 57, 3)) (kk : W p l e R s m args below meth c H locs 0 0 Qs (F0 m (pc + 3) ls (.int (M o 11) :: rest))) : W p l e R s m args below meth c H locs 0 0 Qs (F0 m pc ls (.ref (ga g o) :: rest)) := q_geti C w kc_X8 ho hl 11 hf (by decide) k_241 hdg kk
theorem pi_RX8_57 {p : Program} {l : Launch} {e : Env} {R : Room} {s : State} {m : MethodId} {args : Array Value} {below : List Frame} {meth : Method} {c : Code} {H : Heap} {locs : List Loc} {Qs : State → Prop} {cc : ByteArray} {pc nL o : Nat} {ls : Array Slot} {rest : List Value} {g : Gt} {lay : Nat → Lay} {N : Nat} {M : Mem} {fs : List (Option Nat)} (C : Cx p s m args c cc nL RX8 g) (w : Wd g lay N s.heap M H locs) (ho : o < N) (hl : lay o = .inl (8, fs)) {v : Int32} (hf : fs[11]? = some none) (hdg : decode cc pc = .ok (.putfield 57, 3)) (kk : ∀ (M1 : Mem) (H1 : Heap) (locs1 : List Loc), M1 = mu M o 11 v → Wd g lay N s.heap M1 H1 locs1 → W p l e R s m args below meth c H1 locs1 0 0 Qs (F0 m (pc + 3) ls rest)) : W p l e R s m args below meth c H locs 0 0 Qs (F0 m pc ls (.int v :: .ref (ga g o) :: rest)) := q_put C w kc_X8 ho hl 11 hf (by decide) k_241 rfl (by decide +kernel) hdg kk
theorem gi_RX8_60 {p : Program} {l : Launch} {e : Env} {R : Room} {s : State} {m : MethodId} {args : Array Value} {below : List Frame} {meth : Method} {c : Code} {H : Heap} {locs : List Loc} {Qs : State → Prop} {cc : ByteArray} {pc nL o : Nat} {ls : Array Slot} {rest : List Value} {g : Gt} {lay : Nat → Lay} {N : Nat} {M : Mem} {fs : List (Option Nat)} (C : Cx p s m args c cc nL RX8 g) (w : Wd g lay N s.heap M H locs) (ho : o < N) (hl : lay o = .inl (8, fs)) (hf : fs[9]? = some none) (hdg : decode cc pc = .ok (.getfield 60, 3)) (kk : W p l e R s m args below meth c H locs 0 0 Qs (F0 m (pc + 3) ls (.int (M o 9) :: rest))) : W p l e R s m args below meth c H locs 0 0 Qs (F0 m pc ls (.ref (ga g o) :: rest)) := q_geti C w kc_X8 ho hl 9 hf (by decide) k_242 hdg kk
theorem pi_RX8_60 {p : Program} {l : Launch} {e : Env} {R : Room} {s : State} {m : MethodId} {args : Array Value} {below : List Frame} {meth : Method} {c : Code} {H : Heap} {locs : List Loc} {Qs : State → Prop} {cc : ByteArray} {pc nL o : Nat} {ls : Array Slot} {rest : List Value} {g : Gt} {lay : Nat → Lay} {N : Nat} {M : Mem} {fs : List (Option Nat)} (C : Cx p s m args c cc nL RX8 g) (w : Wd g lay N s.heap M H locs) (ho : o < N) (hl : lay o = .inl (8, fs)) {v : Int32} (hf : fs[9]? = some none) (hdg : decode cc pc = .ok (.putfield 60, 3)) (kk : ∀ (M1 : Mem) (H1 : Heap) (locs1 : List Loc), M1 = mu M o 9 v → Wd g lay N s.heap M1 H1 locs1 → W p l e R s m args below meth c H1 locs1 0 0 Qs (F0 m (pc + 3) ls rest)) : W p l e R s m args below meth c H locs 0 0 Qs (F0 m pc ls (.int v :: .ref (ga g o) :: rest)) := q_put C w kc_X8 ho hl 9 hf (by decide) k_242 rfl (by decide +kernel) hdg kk
theorem gi_RX8_63 {p : Program} {l : Launch} {e : Env} {R : Room} {s : State} {m : MethodId} {args : Array Value} {below : List Frame} {meth : Method} {c : Code} {H : Heap} {locs : List Loc} {Qs : State → Prop} {cc : ByteArray} {pc nL o : Nat} {ls : Array Slot} {rest : List Value} {g : Gt} {lay : Nat → Lay} {N : Nat} {M : Mem} {fs : List (Option Nat)} (C : Cx p s m args c cc nL RX8 g) (w : Wd g lay N s.heap M H locs) (ho : o < N) (hl : lay o = .inl (8, fs)) (hf : fs[12]? = some none) (hdg : decode cc pc = .ok (.getfield 63, 3)) (kk : W p l e R s m args below meth c H locs 0 0 Qs (F0 m (pc + 3) ls (.int (M o 12) :: rest))) : W p l e R s m args below meth c H locs 0 0 Qs (F0 m pc ls (.ref (ga g o) :: rest)) := q_geti C w kc_X8 ho hl 12 hf (by decide) k_243 hdg kk
theorem pi_RX8_63 {p : Program} {l : Launch} {e : Env} {R : Room} {s : State} {m : MethodId} {args : Array Value} {below : List Frame} {meth : Method} {c : Code} {H : Heap} {locs : List Loc} {Qs : State → Prop} {cc : ByteArray} {pc nL o : Nat} {ls : Array Slot} {rest : List Value} {g : Gt} {lay : Nat → Lay} {N : Nat} {M : Mem} {fs : List (Option Nat)} (C : Cx p s m args c cc nL RX8 g) (w : Wd g lay N s.heap M H locs) (ho : o < N) (hl : lay o = .inl (8, fs)) {v : Int32} (hf : fs[12]? = some none) (hdg : decode cc pc = .ok (.putfield 63, 3)) (kk : ∀ (M1 : Mem) (H1 : Heap) (locs1 : List Loc), M1 = mu M o 12 v → Wd g lay N s.heap M1 H1 locs1 → W p l e R s m args below meth c H1 locs1 0 0 Qs (F0 m (pc + 3) ls rest)) : W p l e R s m args below meth c H locs 0 0 Qs (F0 m pc ls (.int v :: .ref (ga g o) :: rest)) := q_put C w kc_X8 ho hl 12 hf (by decide) k_243 rfl (by decide +kernel) hdg kk
theorem gi_RX8_66 {p : Program} {l : Launch} {e : Env} {R : Room} {s : State} {m : MethodId} {args : Array Value} {below : List Frame} {meth : Method} {c : Code} {H : Heap} {locs : List Loc} {Qs : State → Prop} {cc : ByteArray} {pc nL o : Nat} {ls : Array Slot} {rest : List Value} {g : Gt} {lay : Nat → Lay} {N : Nat} {M : Mem} {fs : List (Option Nat)} (C : Cx p s m args c cc nL RX8 g) (w : Wd g lay N s.heap M H locs) (ho : o < N) (hl : lay o = .inl (8, fs)) (hf : fs[10]? = some none) (hdg : decode cc pc = .ok (.getfield 66, 3)) (kk : W p l e R s m args below meth c H locs 0 0 Qs (F0 m (pc + 3) ls (.int (M o 10) :: rest))) : W p l e R s m args below meth c H locs 0 0 Qs (F0 m pc ls (.ref (ga g o) :: rest)) := q_geti C w kc_X8 ho hl 10 hf (by decide) k_244 hdg kk
theorem pi_RX8_66 {p : Program} {l : Launch} {e : Env} {R : Room} {s : State} {m : MethodId} {args : Array Value} {below : List Frame} {meth : Method} {c : Code} {H : Heap} {locs : List Loc} {Qs : State → Prop} {cc : ByteArray} {pc nL o : Nat} {ls : Array Slot} {rest : List Value} {g : Gt} {lay : Nat → Lay} {N : Nat} {M : Mem} {fs : List (Option Nat)} (C : Cx p s m args c cc nL RX8 g) (w : Wd g lay N s.heap M H locs) (ho : o < N) (hl : lay o = .inl (8, fs)) {v : Int32} (hf : fs[10]? = some none) (hdg : decode cc pc = .ok (.putfield 66, 3)) (kk : ∀ (M1 : Mem) (H1 : Heap) (locs1 : List Loc), M1 = mu M o 10 v → Wd g lay N s.heap M1 H1 locs1 → W p l e R s m args below meth c H1 locs1 0 0 Qs (F0 m (pc + 3) ls rest)) : W p l e R s m args below meth c H locs 0 0 Qs (F0 m pc ls (.int v :: .ref (ga g o) :: rest)) := q_put C w kc_X8 ho hl 10 hf (by decide) k_244 rfl (by decide +kernel) hdg kk
theorem gi_RX8_73 {p : Program} {l : Launch} {e : Env} {R : Room} {s : State} {m : MethodId} {args : Array Value} {below : List Frame} {meth : Method} {c : Code} {H : Heap} {locs : List Loc} {Qs : State → Prop} {cc : ByteArray} {pc nL o : Nat} {ls : Array Slot} {rest : List Value} {g : Gt} {lay : Nat → Lay} {N : Nat} {M : Mem} {fs : List (Option Nat)} (C : Cx p s m args c cc nL RX8 g) (w : Wd g lay N s.heap M H locs) (ho : o < N) (hl : lay o = .inl (8, fs)) (hf : fs[13]? = some none) (hdg : decode cc pc = .ok (.getfield 73, 3)) (kk : W p l e R s m args below meth c H locs 0 0 Qs (F0 m (pc + 3) ls (.int (M o 13) :: rest))) : W p l e R s m args below meth c H locs 0 0 Qs (F0 m pc ls (.ref (ga g o) :: rest)) := q_geti C w kc_X8 ho hl 13 hf (by decide) k_245 hdg kk
theorem pi_RX8_73 {p : Program} {l : Launch} {e : Env} {R : Room} {s : State} {m : MethodId} {args : Array Value} {below : List Frame} {meth : Method} {c : Code} {H : Heap} {locs : List Loc} {Qs : State → Prop} {cc : ByteArray} {pc nL o : Nat} {ls : Array Slot} {rest : List Value} {g : Gt} {lay : Nat → Lay} {N : Nat} {M : Mem} {fs : List (Option Nat)} (C : Cx p s m args c cc nL RX8 g) (w : Wd g lay N s.heap M H locs) (ho : o < N) (hl : lay o = .inl (8, fs)) {v : Int32} (hf : fs[13]? = some none) (hdg : decode cc pc = .ok (.putfield 73, 3)) (kk : ∀ (M1 : Mem) (H1 : Heap) (locs1 : List Loc), M1 = mu M o 13 v → Wd g lay N s.heap M1 H1 locs1 → W p l e R s m args below meth c H1 locs1 0 0 Qs (F0 m (pc + 3) ls rest)) : W p l e R s m args below meth c H locs 0 0 Qs (F0 m pc ls (.int v :: .ref (ga g o) :: rest)) := q_put C w kc_X8 ho hl 13 hf (by decide) k_245 rfl (by decide +kernel) hdg kk
theorem gi_RX8_91 {p : Program} {l : Launch} {e : Env} {R : Room} {s : State} {m : MethodId} {args : Array Value} {below : List Frame} {meth : Method} {c : Code} {H : Heap} {locs : List Loc} {Qs : State → Prop} {cc : ByteArray} {pc nL o : Nat} {ls : Array Slot} {rest : List Value} {g : Gt} {lay : Nat → Lay} {N : Nat} {M : Mem} {fs : List (Option Nat)} (C : Cx p s m args c cc nL RX8 g) (w : Wd g lay N s.heap M H locs) (ho : o < N) (hl : lay o = .inl (8, fs)) (hf : fs[3]? = some none) (hdg : decode cc pc = .ok (.getfield 91, 3)) (kk : W p l e R s m args below meth c H locs 0 0 Qs (F0 m (pc + 3) ls (.int (M o 3) :: rest))) : W p l e R s m args below meth c H locs 0 0 Qs (F0 m pc ls (.ref (ga g o) :: rest)) := q_geti C w kc_X8 ho hl 3 hf (by decide) k_246 hdg kk
theorem pi_RX8_91 {p : Program} {l : Launch} {e : Env} {R : Room} {s : State} {m : MethodId} {args : Array Value} {below : List Frame} {meth : Method} {c : Code} {H : Heap} {locs : List Loc} {Qs : State → Prop} {cc : ByteArray} {pc nL o : Nat} {ls : Array Slot} {rest : List Value} {g : Gt} {lay : Nat → Lay} {N : Nat} {M : Mem} {fs : List (Option Nat)} (C : Cx p s m args c cc nL RX8 g) (w : Wd g lay N s.heap M H locs) (ho : o < N) (hl : lay o = .inl (8, fs)) {v : Int32} (hf : fs[3]? = some none) (hdg : decode cc pc = .ok (.putfield 91, 3)) (kk : ∀ (M1 : Mem) (H1 : Heap) (locs1 : List Loc), M1 = mu M o 3 v → Wd g lay N s.heap M1 H1 locs1 → W p l e R s m args below meth c H1 locs1 0 0 Qs (F0 m (pc + 3) ls rest)) : W p l e R s m args below meth c H locs 0 0 Qs (F0 m pc ls (.int v :: .ref (ga g o) :: rest)) := q_put C w kc_X8 ho hl 3 hf (by decide) k_246 rfl (by decide +kernel) hdg kk
theorem gi_RX8_100 {p : Program} {l : Launch} {e : Env} {R : Room} {s : State} {m : MethodId} {args : Array Value} {below : List Frame} {meth : Method} {c : Code} {H : Heap} {locs : List Loc} {Qs : State → Prop} {cc : ByteArray} {pc nL o : Nat} {ls : Array Slot} {rest : List Value} {g : Gt} {lay : Nat → Lay} {N : Nat} {M : Mem} {fs : List (Option Nat)} (C : Cx p s m args c cc nL RX8 g) (w : Wd g lay N s.heap M H locs) (ho : o < N) (hl : lay o = .inl (8, fs)) (hf : fs[4]? = some none) (hdg : decode cc pc = .ok (.getfield 100, 3)) (kk : W p l e R s m args below meth c H locs 0 0 Qs (F0 m (pc + 3) ls (.int (M o 4) :: rest))) : W p l e R s m args below meth c H locs 0 0 Qs (F0 m pc ls (.ref (ga g o) :: rest)) := q_geti C w kc_X8 ho hl 4 hf (by decide) k_247 hdg kk
theorem pi_RX8_100 {p : Program} {l : Launch} {e : Env} {R : Room} {s : State} {m : MethodId} {args : Array Value} {below : List Frame} {meth : Method} {c : Code} {H : Heap} {locs : List Loc} {Qs : State → Prop} {cc : ByteArray} {pc nL o : Nat} {ls : Array Slot} {rest : List Value} {g : Gt} {lay : Nat → Lay} {N : Nat} {M : Mem} {fs : List (Option Nat)} (C : Cx p s m args c cc nL RX8 g) (w : Wd g lay N s.heap M H locs) (ho : o < N) (hl : lay o = .inl (8, fs)) {v : Int32} (hf : fs[4]? = some none) (hdg : decode cc pc = .ok (.putfield 100, 3)) (kk : ∀ (M1 : Mem) (H1 : Heap) (locs1 : List Loc), M1 = mu M o 4 v → Wd g lay N s.heap M1 H1 locs1 → W p l e R s m args below meth c H1 locs1 0 0 Qs (F0 m (pc + 3) ls rest)) : W p l e R s m args below meth c H locs 0 0 Qs (F0 m pc ls (.int v :: .ref (ga g o) :: rest)) := q_put C w kc_X8 ho hl 4 hf (by decide) k_247 rfl (by decide +kernel) hdg kk
theorem gi_RX8_113 {p : Program} {l : Launch} {e : Env} {R : Room} {s : State} {m : MethodId} {args : Array Value} {below : List Frame} {meth : Method} {c : Code} {H : Heap} {locs : List Loc} {Qs : State → Prop} {cc : ByteArray} {pc nL o : Nat} {ls : Array Slot} {rest : List Value} {g : Gt} {lay : Nat → Lay} {N : Nat} {M : Mem} {fs : List (Option Nat)} (C : Cx p s m args c cc nL RX8 g) (w : Wd g lay N s.heap M H locs) (ho : o < N) (hl : lay o = .inl (8, fs)) (hf : fs[7]? = some none) (hdg : decode cc pc = .ok (.getfield 113, 3)) (kk : W p l e R s m args below meth c H locs 0 0 Qs (F0 m (pc + 3) ls (.int (M o 7) :: rest))) : W p l e R s m args below meth c H locs 0 0 Qs (F0 m pc ls (.ref (ga g o) :: rest)) := q_geti C w kc_X8 ho hl 7 hf (by decide) k_248 hdg kk
theorem pi_RX8_113 {p : Program} {l : Launch} {e : Env} {R : Room} {s : State} {m : MethodId} {args : Array Value} {below : List Frame} {meth : Method} {c : Code} {H : Heap} {locs : List Loc} {Qs : State → Prop} {cc : ByteArray} {pc nL o : Nat} {ls : Array Slot} {rest : List Value} {g : Gt} {lay : Nat → Lay} {N : Nat} {M : Mem} {fs : List (Option Nat)} (C : Cx p s m args c cc nL RX8 g) (w : Wd g lay N s.heap M H locs) (ho : o < N) (hl : lay o = .inl (8, fs)) {v : Int32} (hf : fs[7]? = some none) (hdg : decode cc pc = .ok (.putfield 113, 3)) (kk : ∀ (M1 : Mem) (H1 : Heap) (locs1 : List Loc), M1 = mu M o 7 v → Wd g lay N s.heap M1 H1 locs1 → W p l e R s m args below meth c H1 locs1 0 0 Qs (F0 m (pc + 3) ls rest)) : W p l e R s m args below meth c H locs 0 0 Qs (F0 m pc ls (.int v :: .ref (ga g o) :: rest)) := q_put C w kc_X8 ho hl 7 hf (by decide) k_248 rfl (by decide +kernel) hdg kk
theorem gi_RX8_116 {p : Program} {l : Launch} {e : Env} {R : Room} {s : State} {m : MethodId} {args : Array Value} {below : List Frame} {meth : Method} {c : Code} {H : Heap} {locs : List Loc} {Qs : State → Prop} {cc : ByteArray} {pc nL o : Nat} {ls : Array Slot} {rest : List Value} {g : Gt} {lay : Nat → Lay} {N : Nat} {M : Mem} {fs : List (Option Nat)} (C : Cx p s m args c cc nL RX8 g) (w : Wd g lay N s.heap M H locs) (ho : o < N) (hl : lay o = .inl (8, fs)) (hf : fs[1]? = some none) (hdg : decode cc pc = .ok (.getfield 116, 3)) (kk : W p l e R s m args below meth c H locs 0 0 Qs (F0 m (pc + 3) ls (.int (M o 1) :: rest))) : W p l e R s m args below meth c H locs 0 0 Qs (F0 m pc ls (.ref (ga g o) :: rest)) := q_geti C w kc_X8 ho hl 1 hf (by decide) k_249 hdg kk
theorem pi_RX8_116 {p : Program} {l : Launch} {e : Env} {R : Room} {s : State} {m : MethodId} {args : Array Value} {below : List Frame} {meth : Method} {c : Code} {H : Heap} {locs : List Loc} {Qs : State → Prop} {cc : ByteArray} {pc nL o : Nat} {ls : Array Slot} {rest : List Value} {g : Gt} {lay : Nat → Lay} {N : Nat} {M : Mem} {fs : List (Option Nat)} (C : Cx p s m args c cc nL RX8 g) (w : Wd g lay N s.heap M H locs) (ho : o < N) (hl : lay o = .inl (8, fs)) {v : Int32} (hf : fs[1]? = some none) (hdg : decode cc pc = .ok (.putfield 116, 3)) (kk : ∀ (M1 : Mem) (H1 : Heap) (locs1 : List Loc), M1 = mu M o 1 v → Wd g lay N s.heap M1 H1 locs1 → W p l e R s m args below meth c H1 locs1 0 0 Qs (F0 m (pc + 3) ls rest)) : W p l e R s m args below meth c H locs 0 0 Qs (F0 m pc ls (.int v :: .ref (ga g o) :: rest)) := q_put C w kc_X8 ho hl 1 hf (by decide) k_249 rfl (by decide +kernel) hdg kk
theorem gi_RX8_119 {p : Program} {l : Launch} {e : Env} {R : Room} {s : State} {m : MethodId} {args : Array Value} {below : List Frame} {meth : Method} {c : Code} {H : Heap} {locs : List Loc} {Qs : State → Prop} {cc : ByteArray} {pc nL o : Nat} {ls : Array Slot} {rest : List Value} {g : Gt} {lay : Nat → Lay} {N : Nat} {M : Mem} {fs : List (Option Nat)} (C : Cx p s m args c cc nL RX8 g) (w : Wd g lay N s.heap M H locs) (ho : o < N) (hl : lay o = .inl (8, fs)) (hf : fs[21]? = some none) (hdg : decode cc pc = .ok (.getfield 119, 3)) (kk : W p l e R s m args below meth c H locs 0 0 Qs (F0 m (pc + 3) ls (.int (M o 21) :: rest))) : W p l e R s m args below meth c H locs 0 0 Qs (F0 m pc ls (.ref (ga g o) :: rest)) := q_geti C w kc_X8 ho hl 21 hf (by decide) k_250 hdg kk
theorem pi_RX8_119 {p : Program} {l : Launch} {e : Env} {R : Room} {s : State} {m : MethodId} {args : Array Value} {below : List Frame} {meth : Method} {c : Code} {H : Heap} {locs : List Loc} {Qs : State → Prop} {cc : ByteArray} {pc nL o : Nat} {ls : Array Slot} {rest : List Value} {g : Gt} {lay : Nat → Lay} {N : Nat} {M : Mem} {fs : List (Option Nat)} (C : Cx p s m args c cc nL RX8 g) (w : Wd g lay N s.heap M H locs) (ho : o < N) (hl : lay o = .inl (8, fs)) {v : Int32} (hf : fs[21]? = some none) (hdg : decode cc pc = .ok (.putfield 119, 3)) (kk : ∀ (M1 : Mem) (H1 : Heap) (locs1 : List Loc), M1 = mu M o 21 v → Wd g lay N s.heap M1 H1 locs1 → W p l e R s m args below meth c H1 locs1 0 0 Qs (F0 m (pc + 3) ls rest)) : W p l e R s m args below meth c H locs 0 0 Qs (F0 m pc ls (.int v :: .ref (ga g o) :: rest)) := q_put C w kc_X8 ho hl 21 hf (by decide) k_250 rfl (by decide +kernel) hdg kk
theorem gi_RX8_128 {p : Program} {l : Launch} {e : Env} {R : Room} {s : State} {m : MethodId} {args : Array Value} {below : List Frame} {meth : Method} {c : Code} {H : Heap} {locs : List Loc} {Qs : State → Prop} {cc : ByteArray} {pc nL o : Nat} {ls : Array Slot} {rest : List Value} {g : Gt} {lay : Nat → Lay} {N : Nat} {M : Mem} {fs : List (Option Nat)} (C : Cx p s m args c cc nL RX8 g) (w : Wd g lay N s.heap M H locs) (ho : o < N) (hl : lay o = .inl (8, fs)) (hf : fs[16]? = some none) (hdg : decode cc pc = .ok (.getfield 128, 3)) (kk : W p l e R s m args below meth c H locs 0 0 Qs (F0 m (pc + 3) ls (.int (M o 16) :: rest))) : W p l e R s m args below meth c H locs 0 0 Qs (F0 m pc ls (.ref (ga g o) :: rest)) := q_geti C w kc_X8 ho hl 16 hf (by decide) k_251 hdg kk
theorem pi_RX8_128 {p : Program} {l : Launch} {e : Env} {R : Room} {s : State} {m : MethodId} {args : Array Value} {below : List Frame} {meth : Method} {c : Code} {H : Heap} {locs : List Loc} {Qs : State → Prop} {cc : ByteArray} {pc nL o : Nat} {ls : Array Slot} {rest : List Value} {g : Gt} {lay : Nat → Lay} {N : Nat} {M : Mem} {fs : List (Option Nat)} (C : Cx p s m args c cc nL RX8 g) (w : Wd g lay N s.heap M H locs) (ho : o < N) (hl : lay o = .inl (8, fs)) {v : Int32} (hf : fs[16]? = some none) (hdg : decode cc pc = .ok (.putfield 128, 3)) (kk : ∀ (M1 : Mem) (H1 : Heap) (locs1 : List Loc), M1 = mu M o 16 v → Wd g lay N s.heap M1 H1 locs1 → W p l e R s m args below meth c H1 locs1 0 0 Qs (F0 m (pc + 3) ls rest)) : W p l e R s m args below meth c H locs 0 0 Qs (F0 m pc ls (.int v :: .ref (ga g o) :: rest)) := q_put C w kc_X8 ho hl 16 hf (by decide) k_251 rfl (by decide +kernel) hdg kk
theorem gi_RX8_131 {p : Program} {l : Launch} {e : Env} {R : Room} {s : State} {m : MethodId} {args : Array Value} {below : List Frame} {meth : Method} {c : Code} {H : Heap} {locs : List Loc} {Qs : State → Prop} {cc : ByteArray} {pc nL o : Nat} {ls : Array Slot} {rest : List Value} {g : Gt} {lay : Nat → Lay} {N : Nat} {M : Mem} {fs : List (Option Nat)} (C : Cx p s m args c cc nL RX8 g) (w : Wd g lay N s.heap M H locs) (ho : o < N) (hl : lay o = .inl (8, fs)) (hf : fs[17]? = some none) (hdg : decode cc pc = .ok (.getfield 131, 3)) (kk : W p l e R s m args below meth c H locs 0 0 Qs (F0 m (pc + 3) ls (.int (M o 17) :: rest))) : W p l e R s m args below meth c H locs 0 0 Qs (F0 m pc ls (.ref (ga g o) :: rest)) := q_geti C w kc_X8 ho hl 17 hf (by decide) k_252 hdg kk
theorem pi_RX8_131 {p : Program} {l : Launch} {e : Env} {R : Room} {s : State} {m : MethodId} {args : Array Value} {below : List Frame} {meth : Method} {c : Code} {H : Heap} {locs : List Loc} {Qs : State → Prop} {cc : ByteArray} {pc nL o : Nat} {ls : Array Slot} {rest : List Value} {g : Gt} {lay : Nat → Lay} {N : Nat} {M : Mem} {fs : List (Option Nat)} (C : Cx p s m args c cc nL RX8 g) (w : Wd g lay N s.heap M H locs) (ho : o < N) (hl : lay o = .inl (8, fs)) {v : Int32} (hf : fs[17]? = some none) (hdg : decode cc pc = .ok (.putfield 131, 3)) (kk : ∀ (M1 : Mem) (H1 : Heap) (locs1 : List Loc), M1 = mu M o 17 v → Wd g lay N s.heap M1 H1 locs1 → W p l e R s m args below meth c H1 locs1 0 0 Qs (F0 m (pc + 3) ls rest)) : W p l e R s m args below meth c H locs 0 0 Qs (F0 m pc ls (.int v :: .ref (ga g o) :: rest)) := q_put C w kc_X8 ho hl 17 hf (by decide) k_252 rfl (by decide +kernel) hdg kk
theorem gi_RX8_134 {p : Program} {l : Launch} {e : Env} {R : Room} {s : State} {m : MethodId} {args : Array Value} {below : List Frame} {meth : Method} {c : Code} {H : Heap} {locs : List Loc} {Qs : State → Prop} {cc : ByteArray} {pc nL o : Nat} {ls : Array Slot} {rest : List Value} {g : Gt} {lay : Nat → Lay} {N : Nat} {M : Mem} {fs : List (Option Nat)} (C : Cx p s m args c cc nL RX8 g) (w : Wd g lay N s.heap M H locs) (ho : o < N) (hl : lay o = .inl (8, fs)) (hf : fs[18]? = some none) (hdg : decode cc pc = .ok (.getfield 134, 3)) (kk : W p l e R s m args below meth c H locs 0 0 Qs (F0 m (pc + 3) ls (.int (M o 18) :: rest))) : W p l e R s m args below meth c H locs 0 0 Qs (F0 m pc ls (.ref (ga g o) :: rest)) := q_geti C w kc_X8 ho hl 18 hf (by decide) k_253 hdg kk
theorem pi_RX8_134 {p : Program} {l : Launch} {e : Env} {R : Room} {s : State} {m : MethodId} {args : Array Value} {below : List Frame} {meth : Method} {c : Code} {H : Heap} {locs : List Loc} {Qs : State → Prop} {cc : ByteArray} {pc nL o : Nat} {ls : Array Slot} {rest : List Value} {g : Gt} {lay : Nat → Lay} {N : Nat} {M : Mem} {fs : List (Option Nat)} (C : Cx p s m args c cc nL RX8 g) (w : Wd g lay N s.heap M H locs) (ho : o < N) (hl : lay o = .inl (8, fs)) {v : Int32} (hf : fs[18]? = some none) (hdg : decode cc pc = .ok (.putfield 134, 3)) (kk : ∀ (M1 : Mem) (H1 : Heap) (locs1 : List Loc), M1 = mu M o 18 v → Wd g lay N s.heap M1 H1 locs1 → W p l e R s m args below meth c H1 locs1 0 0 Qs (F0 m (pc + 3) ls rest)) : W p l e R s m args below meth c H locs 0 0 Qs (F0 m pc ls (.int v :: .ref (ga g o) :: rest)) := q_put C w kc_X8 ho hl 18 hf (by decide) k_253 rfl (by decide +kernel) hdg kk
theorem gi_RX8_194 {p : Program} {l : Launch} {e : Env} {R : Room} {s : State} {m : MethodId} {args : Array Value} {below : List Frame} {meth : Method} {c : Code} {H : Heap} {locs : List Loc} {Qs : State → Prop} {cc : ByteArray} {pc nL o : Nat} {ls : Array Slot} {rest : List Value} {g : Gt} {lay : Nat → Lay} {N : Nat} {M : Mem} {fs : List (Option Nat)} (C : Cx p s m args c cc nL RX8 g) (w : Wd g lay N s.heap M H locs) (ho : o < N) (hl : lay o = .inl (8, fs)) (hf : fs[19]? = some none) (hdg : decode cc pc = .ok (.getfield 194, 3)) (kk : W p l e R s m args below meth c H locs 0 0 Qs (F0 m (pc + 3) ls (.int (M o 19) :: rest))) : W p l e R s m args below meth c H locs 0 0 Qs (F0 m pc ls (.ref (ga g o) :: rest)) := q_geti C w kc_X8 ho hl 19 hf (by decide) k_254 hdg kk
theorem pi_RX8_194 {p : Program} {l : Launch} {e : Env} {R : Room} {s : State} {m : MethodId} {args : Array Value} {below : List Frame} {meth : Method} {c : Code} {H : Heap} {locs : List Loc} {Qs : State → Prop} {cc : ByteArray} {pc nL o : Nat} {ls : Array Slot} {rest : List Value} {g : Gt} {lay : Nat → Lay} {N : Nat} {M : Mem} {fs : List (Option Nat)} (C : Cx p s m args c cc nL RX8 g) (w : Wd g lay N s.heap M H locs) (ho : o < N) (hl : lay o = .inl (8, fs)) {v : Int32} (hf : fs[19]? = some none) (hdg : decode cc pc = .ok (.putfield 194, 3)) (kk : ∀ (M1 : Mem) (H1 : Heap) (locs1 : List Loc), M1 = mu M o 19 v → Wd g lay N s.heap M1 H1 locs1 → W p l e R s m args below meth c H1 locs1 0 0 Qs (F0 m (pc + 3) ls rest)) : W p l e R s m args below meth c H locs 0 0 Qs (F0 m pc ls (.int v :: .ref (ga g o) :: rest)) := q_put C w kc_X8 ho hl 19 hf (by decide) k_254 rfl (by decide +kernel) hdg kk
theorem gi_RX8_231 {p : Program} {l : Launch} {e : Env} {R : Room} {s : State} {m : MethodId} {args : Array Value} {below : List Frame} {meth : Method} {c : Code} {H : Heap} {locs : List Loc} {Qs : State → Prop} {cc : ByteArray} {pc nL o : Nat} {ls : Array Slot} {rest : List Value} {g : Gt} {lay : Nat → Lay} {N : Nat} {M : Mem} {fs : List (Option Nat)} (C : Cx p s m args c cc nL RX8 g) (w : Wd g lay N s.heap M H locs) (ho : o < N) (hl : lay o = .inl (8, fs)) (hf : fs[27]? = some none) (hdg : decode cc pc = .ok (.getfield 231, 3)) (kk : W p l e R s m args below meth c H locs 0 0 Qs (F0 m (pc + 3) ls (.int (M o 27) :: rest))) : W p l e R s m args below meth c H locs 0 0 Qs (F0 m pc ls (.ref (ga g o) :: rest)) := q_geti C w kc_X8 ho hl 27 hf (by decide) k_255 hdg kk
theorem pi_RX8_231 {p : Program} {l : Launch} {e : Env} {R : Room} {s : State} {m : MethodId} {args : Array Value} {below : List Frame} {meth : Method} {c : Code} {H : Heap} {locs : List Loc} {Qs : State → Prop} {cc : ByteArray} {pc nL o : Nat} {ls : Array Slot} {rest : List Value} {g : Gt} {lay : Nat → Lay} {N : Nat} {M : Mem} {fs : List (Option Nat)} (C : Cx p s m args c cc nL RX8 g) (w : Wd g lay N s.heap M H locs) (ho : o < N) (hl : lay o = .inl (8, fs)) {v : Int32} (hf : fs[27]? = some none) (hdg : decode cc pc = .ok (.putfield 231, 3)) (kk : ∀ (M1 : Mem) (H1 : Heap) (locs1 : List Loc), M1 = mu M o 27 v → Wd g lay N s.heap M1 H1 locs1 → W p l e R s m args below meth c H1 locs1 0 0 Qs (F0 m (pc + 3) ls rest)) : W p l e R s m args below meth c H locs 0 0 Qs (F0 m pc ls (.int v :: .ref (ga g o) :: rest)) := q_put C w kc_X8 ho hl 27 hf (by decide) k_255 rfl (by decide +kernel) hdg kk
end
section
theorem kj_RJ0_38 : Cond.fieldLink RJ0 38 "java/lang/String" "COMPACT_STRINGS" "Z" ∈ ALL := aw2 101 (by decide +kernel) rfl
theorem kj_RJ0_15 : Cond.fieldLink RJ0 15 "java/lang/String" "coder" "B" ∈ ALL := aw5 206 (by decide +kernel) rfl
theorem kj_RJ0_9 : Cond.fieldLink RJ0 9 "java/lang/String" "value" "[B" ∈ ALL := aw5 205 (by decide +kernel) rfl
theorem kj_RJ0_1053 : Cond.fieldLink RJ0 1053 "jdk/internal/util/Preconditions" "SIOOBE_FORMATTER" "Ljava/util/function/BiFunction;" ∈ ALL := aw2 117 (by decide +kernel) rfl
theorem kj_RJ0_335 : Cond.methodLink RJ0 335 yJ0_coder_7d493 ∈ ALL := aw2 97 (by decide +kernel) rfl
theorem kj_RJ0_1059 : Cond.methodLink RJ0 1059 yJ3_checkIndex_8e157 ∈ ALL := aw2 119 (by decide +kernel) rfl
theorem kj_RJ1_9 : Cond.methodLink RJ1 9 yJ0_checkIndex_df160 ∈ ALL := aw2 114 (by decide +kernel) rfl
theorem kj_RJ0_492 : Cond.methodLink RJ0 492 yJ0_isLatin1_aae02 ∈ ALL := aw2 107 (by decide +kernel) rfl
theorem kj_RJ0_495 : Cond.methodLink RJ0 495 yJ1_charAt_3b067 ∈ ALL := aw2 111 (by decide +kernel) rfl
theorem kv_J0_coder_7d493 : Kv RJ0 yJ0_coder_7d493 cJ0_coder_7d493 1 (some .byte) 0 := ⟨⟨aw2 98 (by decide +kernel) rfl, aw2 99 (by decide +kernel) rfl, aw1 10 (by decide +kernel) rfl, aw2 100 (by decide +kernel) rfl⟩, by decide +kernel⟩
theorem kv_J0_isLatin1_aae02 : Kv RJ0 yJ0_isLatin1_aae02 cJ0_isLatin1_aae02 1 (some .boolean) 0 := ⟨⟨aw2 108 (by decide +kernel) rfl, aw2 109 (by decide +kernel) rfl, aw1 10 (by decide +kernel) rfl, aw2 110 (by decide +kernel) rfl⟩, by decide +kernel⟩
theorem ks_J1_charAt_3b067 : Ks yJ1_charAt_3b067 cJ1_charAt_3b067 2 (some .char) 2 := ⟨⟨aw2 112 (by decide +kernel) rfl, aw1 11 (by decide +kernel) rfl, aw2 113 (by decide +kernel) rfl⟩, by decide +kernel⟩
theorem ks_J0_checkIndex_df160 : Ks yJ0_checkIndex_df160 cJ0_checkIndex_df160 2 none 2 := ⟨⟨aw2 115 (by decide +kernel) rfl, aw1 10 (by decide +kernel) rfl, aw2 116 (by decide +kernel) rfl⟩, by decide +kernel⟩
theorem ks_J3_checkIndex_8e157 : Ks yJ3_checkIndex_8e157 cJ3_checkIndex_8e157 3 (some .int) 3 := ⟨⟨aw2 120 (by decide +kernel) rfl, aw1 12 (by decide +kernel) rfl, aw2 121 (by decide +kernel) rfl⟩, by decide +kernel⟩
section JR
variable {p : Program} {l : Launch} {e : Env} {R : Room} {s : State} {m : MethodId} {args : Array Value} {below : List Frame} {meth : Method} {c : Code} {H : Heap} {locs : List Loc} {Qs : State → Prop}
variable {cc : ByteArray} {pc nL i : Nat} {ls : Array Slot} {rest : List Value} {g : Gt} {lay : Nat → Lay} {N : Nat} {M : Mem}
theorem q_gsC (C : Cx p s m args c cc nL RJ0 g) (w : Wd g lay N s.heap M H locs) (hdg : decode cc pc = .ok (.getstatic 38, 3))
    (kk : W p l e R s m args below meth c H locs 0 0 Qs (F0 m (pc + 3) ls (.int 1 :: rest))) : W p l e R s m args below meth c H locs 0 0 Qs (F0 m pc ls rest) :=
  va_gets C.1.1 C.1.2.1 C.2.2.1.2.2.2.2.2.1 w.2.2 C.1.2.2.2.1 (C.1.2.2.2.2 _ kj_RJ0_38) (fun _ h => h) hdg kk
theorem q_tc (C : Cx p s m args c cc nL RJ0 g) (w : Wd g lay N s.heap M H locs) (hi : i < 6) (hdg : decode cc pc = .ok (.getfield 15, 3))
    (kk : W p l e R s m args below meth c H locs 0 0 Qs (F0 m (pc + 3) ls (.int 0 :: rest))) : W p l e R s m args below meth c H locs 0 0 Qs (F0 m pc ls (.ref (gK g i) :: rest)) :=
  vk_getf C.1.1 C.1.2.1 (C.2.2.1.2.2.2.2.1.1 i hi).2.1 w.2.2 C.1.2.2.2.1 (C.1.2.2.2.2 _ kj_RJ0_15) (fun _ h => h) hdg kk
theorem q_tv (C : Cx p s m args c cc nL RJ0 g) (w : Wd g lay N s.heap M H locs) (hi : i < 6) (hdg : decode cc pc = .ok (.getfield 9, 3))
    (kk : W p l e R s m args below meth c H locs 0 0 Qs (F0 m (pc + 3) ls (.ref (gV g i) :: rest))) : W p l e R s m args below meth c H locs 0 0 Qs (F0 m pc ls (.ref (gK g i) :: rest)) :=
  vk_getf C.1.1 C.1.2.1 (C.2.2.1.2.2.2.2.1.1 i hi).2.2.1 w.2.2 C.1.2.2.2.1 (C.1.2.2.2.2 _ kj_RJ0_9) (fun _ h => h) hdg kk
theorem q_tl {own : String} (C : Cx p s m args c cc nL own g) (w : Wd g lay N s.heap M H locs) (hi : i < 6) (hdg : decode cc pc = .ok (.arraylength, 1))
    (kk : W p l e R s m args below meth c H locs 0 0 Qs (F0 m (pc + 1) ls (.int (nI (txLen.getD i 0)) :: rest))) : W p l e R s m args below meth c H locs 0 0 Qs (F0 m pc ls (.ref (gV g i) :: rest)) :=
  va_tlen C.1.1 C.1.2.1 (C.2.2.1.2.2.2.2.1.1 i hi).2.2.2 w.2.2 rfl hdg kk
theorem q_tb {own : String} (C : Cx p s m args c cc nL own g) (w : Wd g lay N s.heap M H locs) (hi : i < 6) {k : Int32} (hin : vp_in k (txLen.getD i 0)) (hdg : decode cc pc = .ok (.baload, 1))
    (kk : W p l e R s m args below meth c H locs 0 0 Qs (F0 m (pc + 1) ls (.int ((txByt.getD i []).getD k.toNatClampNeg 0) :: rest))) : W p l e R s m args below meth c H locs 0 0 Qs (F0 m pc ls (.int k :: .ref (gV g i) :: rest)) :=
  va_tb C.1.1 C.1.2.1 (C.2.2.1.2.2.2.2.1.1 i hi).2.2.2 w.2.2 hin rfl hdg kk
end JR
set_option maxHeartbeats 4000000 in
set_option maxRecDepth 100000 in
theorem c_J0_coder_7d493 {l : Launch} {g : Gt} {i : Nat} {M : Mem} {Q : Int32 → Prop} (hI : i < 6) (h : Q 0) : MI l yJ0_coder_7d493 cJ0_coder_7d493 1 (some .byte) 0 0 g layX 68 [.ref (gK g i)] M (fun r M9 => M9 = M ∧ Q r) :=
  m_of (by decide +kernel) (Nat.le_of_ble_eq_true rfl) (fun p e s m args below meth c ls C hr hk w hl => by
    have C : Cx p s m args c cJ0_coder_7d493 1 RJ0 g := C
    have hl : lv_has ls 1 [(0, .ref (gK g i))] := hl
    obtain ⟨H, eH⟩ : ∃ H : Heap, H = s.heap := ⟨_, rfl⟩
    obtain ⟨locs, el⟩ : ∃ locs : List Loc, locs = [] := ⟨_, rfl⟩
    have w : Wd g layX 68 s.heap M H locs := by rw [eH, el]; exact w
    suffices hw : W p l e (rmOf 0 0) s m args below meth c H locs 0 0 (MQ below (va_Qi (fun r M9 => M9 = M ∧ Q r) (PostW g layX 68) (gF g)) args s 0 0 (gF g)) (F0 m 0 ls []) by rw [eH, el] at hw; exact hw
    clear eH el
    refine q_gsC C w dJ0_coder_7d493_0 ?_
    refine lv_if_eq (tgt := 13) C.1.1 C.1.2.1 dJ0_coder_7d493_3 (by decide) (fun hc => absurd hc (by decide)) (fun _ => ?_)
    refine lv_aload_n C.1.1 C.1.2.1 dJ0_coder_7d493_6 rfl (lv_at hl 0 rfl) ?_
    refine q_tc C w hI dJ0_coder_7d493_7 ?_
    refine lv_goto (tgt := 14) C.1.1 C.1.2.1 dJ0_coder_7d493_10 (by decide) ?_
    exact q_iret C hr hk w rfl ⟨rfl, h⟩ dJ0_coder_7d493_14)
set_option maxHeartbeats 4000000 in
set_option maxRecDepth 100000 in
theorem c_J0_isLatin1_aae02 {l : Launch} {g : Gt} {i : Nat} {M : Mem} {Q : Int32 → Prop} (hI : i < 6) (h : Q 1) : MI l yJ0_isLatin1_aae02 cJ0_isLatin1_aae02 1 (some .boolean) 0 0 g layX 68 [.ref (gK g i)] M (fun r M9 => M9 = M ∧ Q r) :=
  m_of (by decide +kernel) (Nat.le_of_ble_eq_true rfl) (fun p e s m args below meth c ls C hr hk w hl => by
    have C : Cx p s m args c cJ0_isLatin1_aae02 1 RJ0 g := C
    have hl : lv_has ls 1 [(0, .ref (gK g i))] := hl
    obtain ⟨H, eH⟩ : ∃ H : Heap, H = s.heap := ⟨_, rfl⟩
    obtain ⟨locs, el⟩ : ∃ locs : List Loc, locs = [] := ⟨_, rfl⟩
    have w : Wd g layX 68 s.heap M H locs := by rw [eH, el]; exact w
    suffices hw : W p l e (rmOf 0 0) s m args below meth c H locs 0 0 (MQ below (va_Qi (fun r M9 => M9 = M ∧ Q r) (PostW g layX 68) (gF g)) args s 0 0 (gF g)) (F0 m 0 ls []) by rw [eH, el] at hw; exact hw
    clear eH el
    refine q_gsC C w dJ0_isLatin1_aae02_0 ?_
    refine lv_if_eq (tgt := 17) C.1.1 C.1.2.1 dJ0_isLatin1_aae02_3 (by decide) (fun hc => absurd hc (by decide)) (fun _ => ?_)
    refine lv_aload_n C.1.1 C.1.2.1 dJ0_isLatin1_aae02_6 rfl (lv_at hl 0 rfl) ?_
    refine q_tc C w hI dJ0_isLatin1_aae02_7 ?_
    refine lv_if_ne (tgt := 17) C.1.1 C.1.2.1 dJ0_isLatin1_aae02_10 (by decide) (fun hc => absurd rfl hc) (fun _ => ?_)
    refine lv_iconst (v := 1) C.1.1 C.1.2.1 dJ0_isLatin1_aae02_13 (by decide) ?_
    refine lv_goto (tgt := 18) C.1.1 C.1.2.1 dJ0_isLatin1_aae02_14 (by decide) ?_
    exact q_iret C hr hk w rfl ⟨rfl, h⟩ dJ0_isLatin1_aae02_18)
def w_J0_length_8abf5 (i : Nat) (M : Mem) (Q : Int32 → Prop) : Prop := Q (sr (nI (txLen.getD i 0)) 0)
set_option maxHeartbeats 4000000 in
set_option maxRecDepth 100000 in
theorem c_J0_length_8abf5 {l : Launch} {g : Gt} {i : Nat} {M : Mem} {Q : Int32 → Prop} (hI : i < 6) (h : w_J0_length_8abf5 i M Q) : MI l yJ0_length_8abf5 cJ0_length_8abf5 1 (some .int) 1 20 g layX 68 [.ref (gK g i)] M (fun r M9 => M9 = M ∧ Q r) :=
  m_of (by decide +kernel) (Nat.le_of_ble_eq_true rfl) (fun p e s m args below meth c ls C hr hk w hl => by
    have C : Cx p s m args c cJ0_length_8abf5 1 RJ0 g := C
    have hl : lv_has ls 1 [(0, .ref (gK g i))] := hl
    obtain ⟨H, eH⟩ : ∃ H : Heap, H = s.heap := ⟨_, rfl⟩
    obtain ⟨locs, el⟩ : ∃ locs : List Loc, locs = [] := ⟨_, rfl⟩
    have w : Wd g layX 68 s.heap M H locs := by rw [eH, el]; exact w
    suffices hw : W p l e (rmOf 1 20) s m args below meth c H locs 0 0 (MQ below (va_Qi (fun r M9 => M9 = M ∧ Q r) (PostW g layX 68) (gF g)) args s 0 0 (gF g)) (F0 m 0 ls []) by rw [eH, el] at hw; exact hw
    clear eH el
    refine lv_aload_n C.1.1 C.1.2.1 dJ0_length_8abf5_0 rfl (lv_at hl 0 rfl) ?_
    refine q_tv C w hI dJ0_length_8abf5_1 ?_
    refine q_tl C w hI dJ0_length_8abf5_4 ?_
    refine lv_aload_n C.1.1 C.1.2.1 dJ0_length_8abf5_5 rfl (lv_at hl 0 rfl) ?_
    refine q_pVi C w [] (c_J0_coder_7d493 (Q := fun r => r = 0) hI rfl) kv_J0_coder_7d493 kj_RJ0_335 (rcvT C w hI) rfl hl.1 (Nat.le_of_ble_eq_true rfl) ⟨Nat.le_of_ble_eq_true rfl, Nat.le_of_ble_eq_true rfl⟩ dJ0_length_8abf5_6 (fun r H locs hq w => ?_)
    subst hq
    refine q_ishr C dJ0_length_8abf5_9 ?_
    exact q_iret C hr hk w rfl ⟨rfl, h⟩ dJ0_length_8abf5_10)
set_option maxHeartbeats 4000000 in
set_option maxRecDepth 100000 in
theorem c_J3_checkIndex_8e157 {l : Launch} {g : Gt} {x0 x1 : Int32} {fv : Value} {M : Mem} {Q : Int32 → Prop} (hf : (lg_sl [.int x0, .int x1, fv]).length ≤ 3) (hv : lv_args 0 [.int x0, .int x1, fv] = [(0, .int x0), (1, .int x1), (2, fv)]) (h0 : ¬ x0 < 0) (h1 : x0 < x1) (h : Q x0) : MI l yJ3_checkIndex_8e157 cJ3_checkIndex_8e157 3 (some .int) 0 0 g layX 68 [.int x0, .int x1, fv] M (fun r M9 => M9 = M ∧ Q r) :=
  m_of (by decide +kernel) hf (fun p e s m args below meth c ls C hr hk w hl => by
    have C : Cx p s m args c cJ3_checkIndex_8e157 3 RJ3 g := C
    have hl : lv_has ls 3 [(0, .int x0), (1, .int x1), (2, fv)] := by rw [← hv]; exact hl
    obtain ⟨H, eH⟩ : ∃ H : Heap, H = s.heap := ⟨_, rfl⟩
    obtain ⟨locs, el⟩ : ∃ locs : List Loc, locs = [] := ⟨_, rfl⟩
    have w : Wd g layX 68 s.heap M H locs := by rw [eH, el]; exact w
    suffices hw : W p l e (rmOf 0 0) s m args below meth c H locs 0 0 (MQ below (va_Qi (fun r M9 => M9 = M ∧ Q r) (PostW g layX 68) (gF g)) args s 0 0 (gF g)) (F0 m 0 ls []) by rw [eH, el] at hw; exact hw
    clear eH el
    refine lv_iload_n C.1.1 C.1.2.1 dJ3_checkIndex_8e157_0 rfl (lv_at hl 0 rfl) ?_
    refine lv_if_lt (tgt := 9) C.1.1 C.1.2.1 dJ3_checkIndex_8e157_1 (by decide) (fun hc => absurd hc h0) (fun _ => ?_)
    refine lv_iload_n C.1.1 C.1.2.1 dJ3_checkIndex_8e157_4 rfl (lv_at hl 0 rfl) ?_
    refine lv_iload_n C.1.1 C.1.2.1 dJ3_checkIndex_8e157_5 rfl (lv_at hl 1 rfl) ?_
    refine lv_icmp_lt (tgt := 16) C.1.1 C.1.2.1 dJ3_checkIndex_8e157_6 (by decide) (fun _ => ?_) (fun hc => absurd h1 hc)
    refine lv_iload_n C.1.1 C.1.2.1 dJ3_checkIndex_8e157_16 rfl (lv_at hl 0 rfl) ?_
    exact q_iret C hr hk w rfl ⟨rfl, h⟩ dJ3_checkIndex_8e157_17)
set_option maxHeartbeats 4000000 in
set_option maxRecDepth 100000 in
theorem c_J0_checkIndex_df160 {l : Launch} {g : Gt} {x0 x1 : Int32} {M : Mem} {Q : Mem → Prop} (h0 : ¬ x0 < 0) (h1 : x0 < x1) (h : Q M) : MV l yJ0_checkIndex_df160 cJ0_checkIndex_df160 2 none 1 22 g layX 68 [.int x0, .int x1] M Q :=
  m_of (by decide +kernel) (Nat.le_of_ble_eq_true rfl) (fun p e s m args below meth c ls C hr hk w hl => by
    have C : Cx p s m args c cJ0_checkIndex_df160 2 RJ0 g := C
    have hl : lv_has ls 2 [(0, .int x0), (1, .int x1)] := hl
    obtain ⟨H, eH⟩ : ∃ H : Heap, H = s.heap := ⟨_, rfl⟩
    obtain ⟨locs, el⟩ : ∃ locs : List Loc, locs = [] := ⟨_, rfl⟩
    have w : Wd g layX 68 s.heap M H locs := by rw [eH, el]; exact w
    suffices hw : W p l e (rmOf 1 22) s m args below meth c H locs 0 0 (MQ below (va_Qv Q (PostW g layX 68) (gF g)) args s 0 0 (gF g)) (F0 m 0 ls []) by rw [eH, el] at hw; exact hw
    clear eH el
    refine lv_iload_n C.1.1 C.1.2.1 dJ0_checkIndex_df160_0 rfl (lv_at hl 0 rfl) ?_
    refine lv_iload_n C.1.1 C.1.2.1 dJ0_checkIndex_df160_1 rfl (lv_at hl 1 rfl) ?_
    rcases C.2.2.1.2.2.2.2.2.2 with hz | ⟨t, hz⟩
    · refine va_gets C.1.1 C.1.2.1 hz w.2.2 C.1.2.2.2.1 (C.1.2.2.2.2 _ kj_RJ0_1053) (fun _ h => h) dJ0_checkIndex_df160_2 ?_
      refine q_pSi C w [.int x0, .int x1, .null] (c_J3_checkIndex_8e157 (Q := fun r => r = x0) (Nat.le_of_ble_eq_true rfl) rfl h0 h1 rfl) ks_J3_checkIndex_8e157 kj_RJ0_1059 rfl hl.1 (Nat.le_of_ble_eq_true rfl) ⟨Nat.le_of_ble_eq_true rfl, Nat.le_of_ble_eq_true rfl⟩ dJ0_checkIndex_df160_5 (fun r H locs hq w => ?_)
      refine lv_pop C.1.1 C.1.2.1 dJ0_checkIndex_df160_8 rfl ?_
      exact q_vret C hr hk w h dJ0_checkIndex_df160_9
    · refine va_gets C.1.1 C.1.2.1 hz w.2.2 C.1.2.2.2.1 (C.1.2.2.2.2 _ kj_RJ0_1053) (fun _ h => h) dJ0_checkIndex_df160_2 ?_
      refine q_pSi C w [.int x0, .int x1, .ref t] (c_J3_checkIndex_8e157 (Q := fun r => r = x0) (Nat.le_of_ble_eq_true rfl) rfl h0 h1 rfl) ks_J3_checkIndex_8e157 kj_RJ0_1059 rfl hl.1 (Nat.le_of_ble_eq_true rfl) ⟨Nat.le_of_ble_eq_true rfl, Nat.le_of_ble_eq_true rfl⟩ dJ0_checkIndex_df160_5 (fun r H locs hq w => ?_)
      refine lv_pop C.1.1 C.1.2.1 dJ0_checkIndex_df160_8 rfl ?_
      exact q_vret C hr hk w h dJ0_checkIndex_df160_9)
/-- a text's char -/
def chT (i k : Nat) : Int32 := ((((txByt.getD i []).getD k 0) &&& 255).toUInt32 % 65536).toInt32
set_option maxHeartbeats 4000000 in
set_option maxRecDepth 100000 in
theorem c_J1_charAt_3b067 {l : Launch} {g : Gt} {i : Nat} {x1 : Int32} {M : Mem} {Q : Int32 → Prop} (hI : i < 6) (hin : vp_in x1 (txLen.getD i 0)) (h0 : ¬ x1 < 0) (h1 : x1 < nI (txLen.getD i 0)) (h : Q (chT i x1.toNatClampNeg)) : MI l yJ1_charAt_3b067 cJ1_charAt_3b067 2 (some .char) 2 43 g layX 68 [.ref (gV g i), .int x1] M (fun r M9 => M9 = M ∧ Q r) :=
  m_of (by decide +kernel) (Nat.le_of_ble_eq_true rfl) (fun p e s m args below meth c ls C hr hk w hl => by
    have C : Cx p s m args c cJ1_charAt_3b067 2 RJ1 g := C
    have hl : lv_has ls 2 [(0, .ref (gV g i)), (1, .int x1)] := hl
    obtain ⟨H, eH⟩ : ∃ H : Heap, H = s.heap := ⟨_, rfl⟩
    obtain ⟨locs, el⟩ : ∃ locs : List Loc, locs = [] := ⟨_, rfl⟩
    have w : Wd g layX 68 s.heap M H locs := by rw [eH, el]; exact w
    suffices hw : W p l e (rmOf 2 43) s m args below meth c H locs 0 0 (MQ below (va_Qi (fun r M9 => M9 = M ∧ Q r) (PostW g layX 68) (gF g)) args s 0 0 (gF g)) (F0 m 0 ls []) by rw [eH, el] at hw; exact hw
    clear eH el
    refine lv_iload_n C.1.1 C.1.2.1 dJ1_charAt_3b067_0 rfl (lv_at hl 1 rfl) ?_
    refine lv_aload_n C.1.1 C.1.2.1 dJ1_charAt_3b067_1 rfl (lv_at hl 0 rfl) ?_
    refine q_tl C w hI dJ1_charAt_3b067_2 ?_
    refine q_cSv C w [.int x1, .int (nI (txLen.getD i 0))] (c_J0_checkIndex_df160 (Q := fun M1 => M1 = M) h0 h1 rfl) ks_J0_checkIndex_df160 kj_RJ1_9 rfl hl.1 (Nat.le_of_ble_eq_true rfl) ⟨Nat.le_of_ble_eq_true rfl, Nat.le_of_ble_eq_true rfl⟩ dJ1_charAt_3b067_3 (fun M1 H locs hq w => ?_)
    rw [hq] at w
    refine lv_aload_n C.1.1 C.1.2.1 dJ1_charAt_3b067_6 rfl (lv_at hl 0 rfl) ?_
    refine lv_iload_n C.1.1 C.1.2.1 dJ1_charAt_3b067_7 rfl (lv_at hl 1 rfl) ?_
    refine q_tb C w hI hin dJ1_charAt_3b067_8 ?_
    refine lv_sipush (v := 255) C.1.1 C.1.2.1 dJ1_charAt_3b067_9 (by decide) ?_
    refine lv_iand C.1.1 C.1.2.1 dJ1_charAt_3b067_12 ?_
    refine lv_i2c C.1.1 C.1.2.1 dJ1_charAt_3b067_13 rfl ?_
    exact q_iret C hr hk w (pk_nc _) ⟨rfl, h⟩ dJ1_charAt_3b067_14)
def w_J0_charAt_5068e (i : Nat) (x1 : Int32) (M : Mem) (Q : Int32 → Prop) : Prop := vp_in x1 (txLen.getD i 0) ∧ Q (chT i x1.toNatClampNeg)
theorem txLen_lt : ∀ i, i < 6 → txLen.getD i 0 < 7 := by decide
set_option maxHeartbeats 4000000 in
set_option maxRecDepth 100000 in
theorem c_J0_charAt_5068e {l : Launch} {g : Gt} {i : Nat} {x1 : Int32} {M : Mem} {Q : Int32 → Prop} (hI : i < 6) (h : w_J0_charAt_5068e i x1 M Q) : MI l yJ0_charAt_5068e cJ0_charAt_5068e 2 (some .char) 3 64 g layX 68 [.ref (gK g i), .int x1] M (fun r M9 => M9 = M ∧ Q r) :=
  m_of (by decide +kernel) (Nat.le_of_ble_eq_true rfl) (fun p e s m args below meth c ls C hr hk w hl => by
    have C : Cx p s m args c cJ0_charAt_5068e 2 RJ0 g := C
    have hl : lv_has ls 2 [(0, .ref (gK g i)), (1, .int x1)] := hl
    obtain ⟨H, eH⟩ : ∃ H : Heap, H = s.heap := ⟨_, rfl⟩
    obtain ⟨locs, el⟩ : ∃ locs : List Loc, locs = [] := ⟨_, rfl⟩
    have w : Wd g layX 68 s.heap M H locs := by rw [eH, el]; exact w
    suffices hw : W p l e (rmOf 3 64) s m args below meth c H locs 0 0 (MQ below (va_Qi (fun r M9 => M9 = M ∧ Q r) (PostW g layX 68) (gF g)) args s 0 0 (gF g)) (F0 m 0 ls []) by rw [eH, el] at hw; exact hw
    clear eH el
    obtain ⟨hin, h⟩ := h
    have h7 := txLen_lt i hI
    obtain ⟨j, hj, ej⟩ := vp_in_of hin (by omega)
    have h0 : ¬ x1 < 0 := by rw [ej]; exact nI_pos (by omega)
    have h1 : x1 < nI (txLen.getD i 0) := by rw [ej]; exact nI_lt hj (by omega)
    refine lv_aload_n C.1.1 C.1.2.1 dJ0_charAt_5068e_0 rfl (lv_at hl 0 rfl) ?_
    refine q_pVi C w [] (c_J0_isLatin1_aae02 (Q := fun r => r = 1) hI rfl) kv_J0_isLatin1_aae02 kj_RJ0_492 (rcvT C w hI) rfl hl.1 (Nat.le_of_ble_eq_true rfl) ⟨Nat.le_of_ble_eq_true rfl, Nat.le_of_ble_eq_true rfl⟩ dJ0_charAt_5068e_1 (fun r H locs hq w => ?_)
    subst hq
    refine lv_if_eq (tgt := 16) C.1.1 C.1.2.1 dJ0_charAt_5068e_4 (by decide) (fun hc => absurd hc (by decide)) (fun _ => ?_)
    refine lv_aload_n C.1.1 C.1.2.1 dJ0_charAt_5068e_7 rfl (lv_at hl 0 rfl) ?_
    refine q_tv C w hI dJ0_charAt_5068e_8 ?_
    refine lv_iload_n C.1.1 C.1.2.1 dJ0_charAt_5068e_11 rfl (lv_at hl 1 rfl) ?_
    refine q_pSi C w [.ref (gV g i), .int x1] (c_J1_charAt_3b067 (Q := fun r => r = chT i x1.toNatClampNeg) hI hin h0 h1 rfl) ks_J1_charAt_3b067 kj_RJ0_495 rfl hl.1 (Nat.le_of_ble_eq_true rfl) ⟨Nat.le_of_ble_eq_true rfl, Nat.le_of_ble_eq_true rfl⟩ dJ0_charAt_5068e_12 (fun r H locs hq w => ?_)
    subst hq
    exact q_iret C hr hk w (pk_nc _) ⟨rfl, h⟩ dJ0_charAt_5068e_15)
end
